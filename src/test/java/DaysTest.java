/** Promises 7, 8 and 30: days, tried, seed. */
public final class DaysTest {
    public static void main(String[] args) {
        joys();
        brings();
        bounds();
        lastDay();
        tried();
        draws();
        wrong();
        Due.end("DaysTest");
    }

    private static void joys() {
        SharedWindow window = Due.street("a0;b6;A0@0-11;B1@0-0;C6@1-1", "ab-a");
        // a sees A, B (2); b sees C and it brings A, B (3); a sees A and it brings C (2).
        Due.is("days(1)", window.days(1), 0);
        Due.is("houseIs(0, 1)", window.houseIs(0, 1), 4);
        Due.is("houseIs(1, 1)", window.houseIs(1, 1), 3);
        Due.is("count(9)", window.count(9), 7);
        Due.is("count(0)", window.count(0), 1);
        // Now it brings A: what is both seen and brought counts twice (A, B and A).
        window.days(1);
        Due.is("houseIs(0, 1)", window.houseIs(0, 1), 4 + 3 + 2);
    }

    private static void brings() {
        SharedWindow window = Due.street("a0;b6;A0@0-2;B11@0-2", "ab");
        window.days(1);
        Due.is("what it brought stays", window.count(4), 3);
        Due.is("count(10)", window.count(10), 2);
        Due.is("count(3)", window.count(3), 1);
        Due.is("houseIs(1, 1)", window.houseIs(1, 1), 2);
        window = Due.street("a0;b6;A0@0-2;B6@1-1", "ab");
        window.days(1);
        Due.is("what it saw last", window.count(4), 2);
    }

    private static void bounds() {
        SharedWindow window = Due.street("a0;b0", "6(ab)", "c9(1=1);j99(1=1)");
        Due.is("days(92)", window.days(92), 92 * 12 * 9);
        Due.is("days(1)", window.days(1), 9999 - 92 * 12 * 9);
        Due.is("count(5)", window.count(5), 9999);
        Due.is("days(1)", window.days(1), 0);
        Due.is("tried(1, 0)", window.tried(1, 0), 0);
        window = Due.street("a0;b0", "9aaab", "j99(1=1)");
        window.days(91);
        Due.is("joy", window.houseIs(0, 1), 91 * 11 * 99);
        window.days(1);
        Due.is("joy at most", window.houseIs(0, 1), 99999);
        window.days(100);
        Due.is("joy at most", window.houseIs(0, 1), 99999);
        Due.is("joy of the other", window.houseIs(1, 1), 192 * 99);
        Due.is("joy of all", window.count(9), 99999 + 192 * 99);
    }

    private static void lastDay() {
        SharedWindow window = Due.street("a0;b0", "ab", "c1(t=98)");
        for (int i = 0; i < 99; i++) {
            Due.is("days(100)", window.days(100), 2);
        }
        Due.is("count(0)", window.count(0), 9900);
        Due.is("tried(100, 0)", window.tried(100, 0), 2);
        Due.is("days(100)", window.days(100), 2);
        Due.is("count(0)", window.count(0), 9999);
        int x = window.count(8);
        int joy = window.count(9);
        Due.law(window, "c1(1=1);j5(1=1)");
        Due.is("days(1)", window.days(1), 0);
        Due.is("tried(1, 0)", window.tried(1, 0), 0);
        Due.is("tried(1, 3)", window.tried(1, 3), joy);
        Due.is("count(0)", window.count(0), 9999);
        Due.is("count(8)", window.count(8), x);
        Due.is("keep", window.keep(), 9999);
    }

    private static void tried() {
        SharedWindow window = Due.street("a0;b3;p6;A0@0-5;B3@0-11;C5@2-2", "abp---b",
            "c1+w%2(d>0);x(w=7);jn+2*b(w>2)");
        String before = Due.all(window);
        int[] due = new int[26];
        for (int days = 1; days <= 100; days += 33) {
            for (int what = 0; what < due.length; what++) {
                due[what] = window.tried(days, what);
            }
            Due.same("tried", Due.all(window), before);
            SharedWindow other = Due.street("a0;b3;p6;A0@0-5;B3@0-11;C5@2-2", "abp---b",
                "c1+w%2(d>0);x(w=7);jn+2*b(w>2)");
            Due.is("tried(" + days + ", 0)", due[0], other.days(days));
            Due.is("tried(" + days + ", 1)", due[1], other.count(3));
            Due.is("tried(" + days + ", 2)", due[2], other.count(4));
            Due.is("tried(" + days + ", 3)", due[3], other.count(9));
            for (int house = 0; house < 16; house++) {
                Due.is("tried(" + days + ", 10 + " + house + ")", due[10 + house], other.houseIs(house, 1));
            }
        }
        window = Due.street("a0", "");
        Due.is("nobody's", window.tried(100, 1), -2);
    }

    private static void draws() {
        SharedWindow window = Due.street("a0", "aa-");
        Due.is("count(8)", window.count(8), 1);
        window.days(1);
        Due.is("two draws", window.count(8), 61087);
        Due.yes("seed(0)", window.seed(0));
        Due.is("count(8)", window.count(8), 0);
        window.days(1);
        Due.is("two draws from 0", window.count(8), (int) ((25173L * 13849 + 13849) % 65536));
        Due.yes("seed(65535)", window.seed(65535));
        window.days(1);
        long once = (25173L * 65535 + 13849) % 65536;
        Due.is("two draws from 65535", window.count(8), (25173L * once + 13849) % 65536);
        for (int x : new int[] {-1, 65536, Integer.MIN_VALUE, Integer.MAX_VALUE}) {
            int before = window.count(8);
            Due.no("seed(" + x + ")", window.seed(x));
            Due.is("count(8)", window.count(8), before);
        }
    }

    private static void wrong() {
        SharedWindow window = Due.street("a0;c3;A0@0-3", "ac", "c2(1=1)");
        window.days(1);
        String before = Due.all(window);
        for (int n : new int[] {0, -1, 101, Integer.MIN_VALUE, Integer.MAX_VALUE}) {
            Due.is("days(" + n + ")", window.days(n), -1);
            Due.is("tried(" + n + ", 0)", window.tried(n, 0), -1);
        }
        for (int what : new int[] {-1, 4, 9, 11, 13, 25, 26, 42, -2, Integer.MIN_VALUE, Integer.MAX_VALUE}) {
            Due.is("tried(1, " + what + ")", window.tried(1, what), -1);
        }
        Due.same("refused", Due.all(window), before);
        Due.is("tried(100, 12)", window.tried(100, 12), 101);
    }
}
