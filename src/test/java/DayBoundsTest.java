/** Promises 7, 8 and 30 and A DAY: each sentence that names a bound. */
public final class DayBoundsTest {
    private static final int LEAST = Integer.MIN_VALUE;
    private static final int MOST = Integer.MAX_VALUE;

    public static void main(String[] args) {
        numbersOfDays();
        carrying();
        cracks();
        joys();
        joyOfAll();
        lastDay();
        tried();
        seed();
        Due.end("DayBoundsTest");
    }

    private static void numbersOfDays() {
        Due.says("DAYS (1 to 100; as many as can) go by: CRACKS in them (beyond 9999 none); NONE: no such n");
        for (int n : new int[] {LEAST, -100, -1, 0, 101, 1000, MOST}) {
            SharedWindow window = Due.street("a0;b3;A0@0-5", "ab-a", "c2(1=1)");
            window.days(2);
            String before = Due.all(window);
            Due.is("days(" + n + ")", window.days(n), -1);
            Due.same("days(" + n + ")", Due.all(window), before);
        }
        for (int n : new int[] {1, 2, 99, 100}) {
            SharedWindow window = Due.street("a0;b3", "ab", "c2(1=1)");
            Due.is("days(" + n + ")", window.days(n), 4 * n);
            Due.is("count(0)", window.count(0), n);
        }
        SharedWindow empty = new SharedWindow();
        Due.is("no houses", empty.days(100), 0);
        Due.is("count(0)", empty.count(0), 100);
        Due.is("count(8)", empty.count(8), 1);
    }

    private static void carrying() {
        Due.says("by x THE WINDOW stays where it is; else, is it elsewhere (or nobody's), CRACKS are c more and it is that HOUSE's");
        SharedWindow window = Due.street("a0;b0;p0", "abbp", "c1+s(1=1);x(h=1)");
        Due.is("to a from nowhere, not to b, to p", window.days(1), 1 + 4);
        Due.is("it is p's", window.count(3), 15);
        window = Due.street("a0;p0", "9aaap", "c1+s%9(1=1)");
        Due.is("once to a, once to p", window.days(1), 1 + 3);
        Due.is("each day anew", window.days(1), 1 + 3);
        law(window, "9pppp", "c9(1=1)");
        Due.is("it is there", window.days(100), 0);
        // Carried in the last TURN, it is there in the first one of the next DAY.
        law(window, "p9--a", "c1(1=1)");
        Due.is("from p to a", window.days(1), 1);
        law(window, "a9--p", "c1(1=1)");
        Due.is("from a to p", window.days(1), 1);
        Due.is("and back", window.days(1), 2);

        Due.says("from then on it BRINGS what that HOUSE SAW in this TURN");
        window = Due.street("a0;p6;A0@0-0;B6@11-11;C0@1-1", "a9--p");
        window.days(1);
        Due.is("what p saw last", window.count(4), 2);
        Due.is("joy of a", window.houseIs(0, 1), 1);
        Due.is("joy of p", window.houseIs(15, 1), 1 + 1);
        window.days(1);
        Due.is("a has it from p over night", window.houseIs(0, 1), 1 + 1 + 1);
        Due.rota(window, "-a");
        window.days(1);
        Due.is("in this TURN, not in another one", window.count(4), 4);

        Due.says("TRIED are n DAYS by the DRAWS that will come (nothing is changed)");
        String before = Due.all(window);
        Due.same("tried", Due.all(window), before);
        Due.law(window, "cw(1=1);x(w>6)");
        Due.rota(window, "6(ap)");
        int first = window.tried(1, 0);
        int both = window.tried(2, 0);
        int end = window.tried(2, 1);
        Due.is("the first day", window.days(1), first);
        Due.is("the second day", window.tried(1, 0), both - first);
        Due.is("where it is then", window.tried(1, 1), end);
    }

    private static void law(SharedWindow window, String rota, String law) {
        Due.yes(rota, Due.rota(window, rota) > 0);
        Due.yes(law, Due.law(window, law) > 0);
    }

    private static void cracks() {
        Due.says("CRACKS (0 at first; 9999 at most)");
        Due.is("at first", new SharedWindow().count(5), 0);
        SharedWindow window = Due.street("a0;b0", "6(ab)", "c9(1=1)");
        Due.is("92 days", window.days(92), 9936);
        law(window, "6(ab)", "c5(1=1)");
        Due.is("one more", window.days(1), 60);
        law(window, "a", "c2(1=1)");
        Due.is("one turn more", window.days(1), 2);
        Due.is("count(5)", window.count(5), 9998);
        Due.is("one is tried", window.tried(1, 0), 0);
        law(window, "b", "c1(1=1)");
        Due.is("the last one is tried", window.tried(1, 0), 1);
        law(window, "b", "c9(1=1)");
        Due.is("beyond it none is tried", window.tried(1, 0), 1);
        Due.is("beyond it none", window.days(1), 1);
        Due.is("count(5)", window.count(5), 9999);
        Due.is("it is carried", window.count(3), 1);
        law(window, "6(ab)", "c9(1=1)");
        Due.is("none is tried", window.tried(100, 0), 0);
        Due.is("none at all", window.days(100), 0);
        Due.is("it stays", window.count(5), 9999);

        window = Due.street("a0;b0", "6(ab)", "c9(1=1)");
        window.days(92);
        law(window, "3(ab)a", "c9(1=1)");
        Due.is("just to the bound", window.days(1), 63);
        Due.is("count(5)", window.count(5), 9999);
    }

    private static void joys() {
        Due.says("JOY of each HOUSE (99999 at most)");
        SharedWindow window = Due.street("a0;b0;A0@0-11", "9aaaa", "j99(1=1)");
        window.days(84);
        Due.is("84 days", window.houseIs(0, 1), 99792);
        law(window, "aa", "j99(1=1)");
        window.days(1);
        law(window, "a", "j8(1=1)");
        window.days(1);
        Due.is("one too few", window.houseIs(0, 1), 99998);
        law(window, "a", "j1(1=1)");
        Due.is("just to the bound", window.tried(1, 10), 99999);
        law(window, "a", "j2(1=1)");
        Due.is("beyond it", window.tried(1, 10), 99999);
        law(window, "a", "x(1=2)");
        Due.is("beyond it without a j", window.tried(1, 10), 99999);
        Due.is("JOY of all", window.tried(1, 3), 99999);
        law(window, "9aab", "j99(1=1)");
        window.days(100);
        Due.is("it stays", window.houseIs(0, 1), 99999);
        Due.is("the other one's does not", window.houseIs(1, 1), 9900);
        Due.is("count(9)", window.count(9), 99999 + 9900);
        Due.is("in all of it", window.tried(100, 3), 99999 + 19800);
        Due.put(window, 99999 % 256, 9900 % 256);
        Due.is("check(2)", window.check(2), -1);
    }

    private static void joyOfAll() {
        Due.says("9 JOY of all");
        SharedWindow window = Due.street(Due.wholeTerrace(0), "abcdefghijkl", "j99(1=1)");
        for (int i = 0; i < 11; i++) {
            window.days(100);
        }
        Due.rota(window, "3(mnop)");
        for (int i = 0; i < 4; i++) {
            window.days(100);
        }
        for (int house = 0; house < 16; house++) {
            Due.is("houseIs(" + house + ", 1)", window.houseIs(house, 1), 99999);
        }
        Due.is("count(9)", window.count(9), 16 * 99999);
        Due.is("tried(100, 3)", window.tried(100, 3), 16 * 99999);
        int[] bytes = new int[16];
        java.util.Arrays.fill(bytes, 99999 % 256);
        Due.put(window, bytes);
        Due.is("check(16)", window.check(16), -1);
        SharedWindow none = new SharedWindow();
        Due.is("of no house", none.count(9), 0);
    }

    private static void lastDay() {
        Due.says("THE DAY is one more (9999 at most: then none goes by)");
        SharedWindow window = Due.street("a0;b0;A0@0-11", "ab", "c0(1=1);j1(t=98);j0(1=1)");
        for (int i = 0; i < 99; i++) {
            window.days(100);
        }
        Due.is("99 hundreds", window.count(0), 9900);
        window.days(97);
        Due.is("count(0)", window.count(0), 9997);
        Due.is("three days, of which two can", window.tried(3, 3), window.tried(2, 3));
        Due.is("the last one is 9998", window.tried(100, 3), 99 * 2 + 2);
        window.days(1);
        Due.is("keep", window.keep(), 9998);
        int x = window.count(8);
        Due.is("of a hundred days one can", window.days(100), 0);
        Due.is("count(0)", window.count(0), 9999);
        int after = window.count(8);
        Due.is("two draws", after, (25173L * ((25173L * x + 13849) % 65536) + 13849) % 65536);
        Due.law(window, "c9(1=1);j9(1=1)");
        String last = Due.all(window);
        Due.is("none goes by", window.days(1), 0);
        Due.same("days(1)", Due.all(window), last);
    }

    private static void tried() {
        Due.says("DAYS (1 to 100; as many as can) that are tried, what 0 CRACKS in them, 1 in which HOUSE it is then (nobody's: -2), 2 what it BRINGS (bits), 3 JOY of all, 10 + h JOY of told HOUSE h then; NONE: no such ones");
        SharedWindow window = Due.street("a0;h6;p0;A0@0-11;P6@1-1", "ah", "c3(1=1)");
        for (int n : new int[] {LEAST, -1, 0, 101, MOST}) {
            for (int what : new int[] {0, 1, 2, 3, 10, 25}) {
                Due.is("tried(" + n + ", " + what + ")", window.tried(n, what), -1);
            }
        }
        int[] due = {6, 7, 32768, 3, -1, -1, -1, -1, -1, -1, 1, -1, -1, -1, -1, -1, -1, 2, -1, -1, -1, -1, -1, -1, -1, 0};
        for (int what = 0; what < due.length; what++) {
            Due.is("tried(1, " + what + ")", window.tried(1, what), due[what]);
        }
        for (int what : new int[] {LEAST, -100, -10, -1, 26, 27, 42, 100, MOST}) {
            Due.is("tried(1, " + what + ")", window.tried(1, what), -1);
        }
        Due.is("tried(100, 0)", window.tried(100, 0), 600);
        Due.is("nothing is changed", window.count(0), 0);
        Due.is("nothing is changed", window.count(8), 1);
        Due.is("nothing is changed", window.count(3), -2);
        SharedWindow none = new SharedWindow();
        int[] empty = {0, -2, 0, 0, -1, -1, -1, -1, -1, -1, -1};
        for (int what = 0; what < empty.length; what++) {
            Due.is("no houses, tried(100, " + what + ")", none.tried(100, what), empty[what]);
        }
        SharedWindow whole = Due.street(Due.wholeTerrace(0), "p");
        for (int what = 10; what <= 25; what++) {
            Due.is("all houses, tried(1, " + what + ")", whole.tried(1, what), what == 25 ? 16 : 0);
        }
        Due.is("tried(1, 2)", whole.tried(1, 2), 65535);
        Due.is("tried(1, 1)", whole.tried(1, 1), 15);
    }

    private static void seed() {
        Due.says("THE SEED (0 to 65535; X, too): true; false: no such number");
        for (int x : new int[] {0, 1, 65534, 65535}) {
            SharedWindow window = new SharedWindow();
            Due.yes("seed(" + x + ")", window.seed(x));
            Due.is("count(8)", window.count(8), x);
        }
        for (int x : new int[] {LEAST, -65535, -1, 65536, 65537, 131072, MOST}) {
            SharedWindow window = Due.street("a0;b0", "ab", "cw(1=1)");
            window.days(1);
            String before = Due.all(window);
            Due.no("seed(" + x + ")", window.seed(x));
            Due.same("seed(" + x + ")", Due.all(window), before);
        }
        SharedWindow window = Due.street("a0;b0", "ab", "cw(1=1)");
        int first = window.days(1);
        Due.yes("the seed again", window.seed(1));
        Due.is("the draws again", window.days(1), first);
        Due.is("the day is not as before", window.count(0), 2);
    }
}
