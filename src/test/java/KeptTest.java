/** Promises 31 to 34: keep, undo, check, count. */
public final class KeptTest {
    private static final int[] ODD = {-1, 17, 21, Integer.MIN_VALUE, Integer.MAX_VALUE};

    public static void main(String[] args) {
        undo();
        undoElsewhere();
        check();
        count();
        Due.end("KeptTest");
    }

    private static void undo() {
        SharedWindow window = Due.street("a0;b3;A0@0-11;B3@0-5", "abab", "c2(1=1)");
        Due.no("none was kept", window.undo());
        Due.is("keep", window.keep(), 0);
        String first = Due.all(window);
        window.days(3);
        Due.is("keep", window.keep(), 3);
        String kept = Due.all(window);
        window.days(7);
        window.seed(5);
        Due.yes("undo", window.undo());
        Due.same("undo", Due.all(window), kept);
        window.days(1);
        Due.yes("undo again", window.undo());
        Due.same("undo again", Due.all(window), kept);
        Due.no("it is not the first one", kept.equals(first));
        // What is told stays: the rota, the law, the tape.
        window.turn(3, -1);
        Due.law(window, "x(1=1)");
        window.feed(0, 0, 0, 0, 0);
        Due.yes("undo", window.undo());
        Due.is("rotaIs(3)", window.rotaIs(3), -2);
        Due.is("tried(1, 0)", window.tried(1, 0), 0);
        Due.is("count(6)", window.count(6), 1);
        Due.is("count(7)", window.count(7), 20);
    }

    private static void undoElsewhere() {
        SharedWindow window = Due.street("a0;b3;A0@0-11;B3@0-5", "ab", "c2(1=1);j3(1=1)");
        window.days(2);
        Due.is("keep", window.keep(), 2);
        int x = window.count(8);
        Due.is("cracks", window.count(5), 8);
        Due.terrace(window, "a1;c5;C1@0-11");
        window.days(1);
        Due.yes("undo", window.undo());
        int[] due = {2, 5, 4, -2, 2, 8, 2, 0, x, 6, 1, 1};
        for (int what = 0; what < due.length; what++) {
            Due.is("count(" + what + ")", window.count(what), due[what]);
        }
        Due.is("told then and now", window.houseIs(0, 1), 6);
        Due.is("not told then", window.houseIs(2, 1), 0);
        Due.is("not told now", window.houseIs(1, 1), -1);
        Due.terrace(window, "b0;c5");
        Due.yes("undo", window.undo());
        Due.is("it is there again", window.count(3), 1);
        Due.is("houseIs(1, 1)", window.houseIs(1, 1), 6);
        Due.is("count(9)", window.count(9), 6);
        Due.is("what it brings need not be told", window.count(4), 2);
        Due.is("nor need it be to be counted", window.count(10), 1);
    }

    private static void check() {
        SharedWindow window = Due.street("a0;c3;p6", "a2c-p", "j90(1=1)");
        window.days(3);
        // 270, 540 and 270 of joy.
        int[] right = {14, 255, 28, 255, 255, 255, 255, 255, 255, 255, 255, 255, 255, 255, 255, 14};
        for (int n = 0; n <= 16; n++) {
            Due.put(window, right);
            Due.is("check(" + n + ")", window.check(n), -1);
            Due.is("count(7)", window.count(7), 0);
        }
        for (int wrong = 0; wrong < 16; wrong++) {
            int[] bytes = right.clone();
            bytes[wrong] ^= 1;
            bytes[15] = 13;
            Due.put(window, bytes);
            Due.is("wrong from " + wrong, window.check(16), wrong);
            Due.put(window, bytes);
            Due.is("right up to " + wrong, window.check(wrong), -1);
        }
        for (int n : ODD) {
            Due.put(window, right);
            Due.is("check(" + n + ")", window.check(n), -2);
            Due.is("count(7)", window.count(7), 20);
            window.check(0);
            Due.is("count(7)", window.count(7), 0);
        }
        Due.is("an empty tape", window.check(1), -2);
        Due.is("an empty tape", window.check(0), -1);
    }

    private static void count() {
        SharedWindow window = Due.street("a0;c3;p6;A0@0-1;B0@0-11;P6@3-3", "ac-p", "c1+h(1=1);x(w=9)");
        window.seed(65535);
        window.days(1);
        window.feed(1, 2, 3, 4, 5);
        int x = 65535;
        int[] turns = {0, 1, 3};
        int[] holders = {0, 2, 15};
        int at = -2;
        int cracks = 0;
        for (int i = 0; i < turns.length; i++) {
            x = (int) ((25173L * x + 13849) % 65536);
            if (x % 10 != 9) {
                at = holders[i];
                cracks += Math.min(9, 1 + holders[i]);
            }
        }
        Due.is("count(0)", window.count(0), 1);
        Due.is("count(1)", window.count(1), 1 + 4 + 32768);
        Due.is("count(2)", window.count(2), 1 + 2 + 32768);
        Due.is("count(3)", window.count(3), at);
        Due.is("count(4)", window.count(4), 32768);
        Due.is("count(5)", window.count(5), cracks);
        Due.is("count(6)", window.count(6), 2);
        Due.is("count(7)", window.count(7), 20);
        Due.is("count(8)", window.count(8), x);
        Due.is("count(9)", window.count(9), 2 + 2 + 3);
        Due.is("count(10)", window.count(10), 1);
        Due.is("count(11)", window.count(11), 3);
        for (int odd : new int[] {-1, 12, 100, Integer.MIN_VALUE, Integer.MAX_VALUE}) {
            Due.is("count(" + odd + ")", window.count(odd), -1);
        }
    }
}
