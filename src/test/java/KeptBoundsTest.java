import java.util.Arrays;

/** Promises 1 and 31 to 34: each sentence that names a bound. */
public final class KeptBoundsTest {
    private static final int LEAST = Integer.MIN_VALUE;
    private static final int MOST = Integer.MAX_VALUE;

    public static void main(String[] args) {
        atFirst();
        keep();
        undo();
        undoElsewhere();
        check();
        checkRefused();
        count();
        lastCall();
        Due.end("KeptBoundsTest");
    }

    private static void counts(SharedWindow window, int... due) {
        for (int what = 0; what < due.length; what++) {
            Due.is("count(" + what + ")", window.count(what), due[what]);
        }
    }

    private static void atFirst() {
        Due.says("No TERRACE, LAW; THE SEED 1");
        counts(new SharedWindow(), 0, 0, 0, -2, 0, 0, 0, 0, 1, 0, 0, 0);
        Due.says("THE WINDOW is in a HOUSE (nobody's at first) and BRINGS THINGS (none at first)");
        Due.is("count(3)", new SharedWindow().count(3), -2);
        Due.is("count(4)", new SharedWindow().count(4), 0);
        Due.says("THE DAY (0 at first)");
        Due.is("count(0)", new SharedWindow().count(0), 0);
        Due.says("The constants: `NONE = -1`: There is none");
        Due.is("NONE", SharedWindow.NONE, -1);
        // One object knows nothing of another one.
        SharedWindow one = Due.street("a0;A0@0-0", "a", "c9(1=1)");
        one.days(5);
        one.keep();
        one.feed(1, 2, 3, 4, 5);
        counts(new SharedWindow(), 0, 0, 0, -2, 0, 0, 0, 0, 1, 0, 0, 0);
    }

    private static void keep() {
        Due.says("KEPT: THE DAY");
        SharedWindow window = new SharedWindow();
        Due.is("the first day", window.keep(), 0);
        window.days(1);
        Due.is("the next", window.keep(), 1);
        for (int i = 0; i < 100; i++) {
            window.days(100);
        }
        Due.is("the last", window.keep(), 9999);
        String before = Due.all(window);
        window.keep();
        Due.same("keep changes nothing", Due.all(window), before);
    }

    private static void undo() {
        Due.says("UNDONE: true; false: none was KEPT");
        SharedWindow window = Due.street("a0;b6;A0@0-11", "ab", "c1(1=1)");
        window.days(3);
        window.feed(1, 2, 3, 4, 5);
        String before = Due.all(window);
        Due.no("none was kept", window.undo());
        Due.same("undo", Due.all(window), before);
        SharedWindow none = new SharedWindow();
        Due.no("a new object", none.undo());
        none.keep();
        Due.yes("kept at once", none.undo());
        counts(none, 0, 0, 0, -2, 0, 0, 0, 0, 1, 0, 0, 0);

        Due.says("KEPT: THE WINDOW, what it BRINGS, CRACKS, JOY, THE DAY, X; UNDONE: as they were KEPT last");
        window = Due.street("a0;b6;A0@0-11", "ab", "c1(1=1)");
        window.keep();
        window.days(1);
        int x = window.count(8);
        window.keep();
        window.days(3);
        window.seed(5);
        Due.yes("undo", window.undo());
        counts(window, 1, 3, 1, 1, 1, 2, 1, 0, x, 2, 1, 2);
        Due.is("houseIs(0, 1)", window.houseIs(0, 1), 1);
        Due.is("houseIs(1, 1)", window.houseIs(1, 1), 1);
        window.days(1);
        Due.yes("as often as one likes", window.undo());
        counts(window, 1, 3, 1, 1, 1, 2, 1, 0, x, 2, 1, 2);
        Due.says("THE ROTA stays)");
        window.turn(0, 1);
        window.turn(1, -1);
        Due.law(window, "x(1=1);x(1=1)");
        window.feed(0, 0, 0, 0, 0);
        Due.yes("undo", window.undo());
        Due.is("rotaIs(0)", window.rotaIs(0), 1);
        Due.is("rotaIs(1)", window.rotaIs(1), -2);
        Due.is("the law stays", window.count(6), 2);
        Due.is("the tape stays", window.count(7), 20);
    }

    private static void undoElsewhere() {
        Due.says("(THE WINDOW is nobody's if that HOUSE is not told now; one not told then has JOY 0; what it BRINGS as then, told or not");
        SharedWindow window = Due.street("a0;p6;A0@0-11;P6@0-11", "ap", "j7(1=1)");
        window.days(1);
        window.keep();
        int x = window.count(8);
        Due.is("no house of then", Due.terrace(window, "h0"), 1);
        Due.rota(window, "9hhhh");
        window.days(5);
        Due.is("h has joy now", window.houseIs(7, 1), 420);
        Due.yes("undo", window.undo());
        counts(window, 1, 128, 0, -2, 32768, 0, 1, 0, x, 0, 1, 12);
        Due.is("not told then", window.houseIs(7, 1), 0);
        Due.is("the rota stays", window.rotaIs(11), 7);

        Due.is("one house of then", Due.terrace(window, "h0;a5"), 2);
        Due.yes("undo", window.undo());
        counts(window, 1, 129, 0, -2, 32768, 0, 1, 0, x, 7, 1, 12);
        Due.is("told then and now", window.houseIs(0, 1), 7);

        Due.is("the other house of then", Due.terrace(window, "p0"), 1);
        Due.yes("undo", window.undo());
        counts(window, 1, 32768, 0, 15, 32768, 0, 1, 0, x, 7, 1, 0);

        Due.is("no house", Due.terrace(window, "P6@0-11"), 1);
        Due.yes("undo", window.undo());
        counts(window, 1, 0, 32768, -2, 32768, 0, 1, 0, x, 0, 1, 0);
        Due.is("both houses again", Due.terrace(window, "a0;p6"), 2);
        Due.is("no joy without undo", window.count(9), 0);
        Due.yes("undo", window.undo());
        Due.is("joy of both", window.count(9), 14);
        Due.is("it is in p again", window.count(3), 15);
    }

    private static void check() {
        Due.says("CHECK: JOY of HOUSES, modulo 256: right, or the first that is not so");
        int[] joys = {0, 1, 255, 256, 257, 511, 512};
        for (int joy : joys) {
            SharedWindow window = Due.street("a0", "-");
            for (int left = joy; left > 0; left -= Math.min(left, 99)) {
                Due.rota(window, "a");
                Due.law(window, "j" + Math.min(left, 99) + "(1=1)");
                window.days(1);
            }
            Due.is("joy", window.houseIs(0, 1), joy);
            Due.put(window, joy % 256);
            Due.is("right", window.check(1), -1);
            Due.put(window, (joy + 1) % 256);
            Due.is("one too much", window.check(1), 0);
            Due.put(window, (joy + 255) % 256);
            Due.is("one too little", window.check(1), 0);
        }
        Due.says("(0 to 16; empty then; of HOUSES not told 255): NONE: right; else the first that is not so");
        int[] none = new int[16];
        Arrays.fill(none, 255);
        for (int n = 0; n <= 16; n++) {
            SharedWindow window = new SharedWindow();
            Due.put(window, none);
            Due.is("no houses, check(" + n + ")", window.check(n), -1);
            Due.is("empty then", window.count(7), 0);
            window = Due.street(Due.wholeTerrace(0), "");
            Due.put(window, new int[16]);
            Due.is("all houses, check(" + n + ")", window.check(n), -1);
            Due.put(window, none);
            Due.is("all wrong, check(" + n + ")", window.check(n), n == 0 ? -1 : 0);
        }
        for (int wrong = 0; wrong < 16; wrong++) {
            int[] bytes = none.clone();
            bytes[wrong] = 254;
            bytes[15] = 0;
            SharedWindow window = new SharedWindow();
            Due.put(window, bytes);
            Due.is("the first that is not so", window.check(16), wrong);
            Due.put(window, bytes);
            Due.is("it is not asked", window.check(wrong), -1);
            Due.put(window, bytes);
            Due.is("it is the last one asked", window.check(wrong + 1), wrong);
        }
        SharedWindow window = new SharedWindow();
        Due.is("an empty tape will do for none", window.check(0), -1);
    }

    private static void checkRefused() {
        Due.says("-2: no such n, it has not so many (the tape stays)");
        for (int n : new int[] {LEAST, -16, -1, 17, 18, 255, 260, MOST}) {
            SharedWindow window = new SharedWindow();
            Due.put(window, new int[260]);
            Due.is("check(" + n + ")", window.check(n), -2);
            Due.is("count(7)", window.count(7), 260);
        }
        for (int n = 1; n <= 16; n++) {
            Due.is("an empty tape, check(" + n + ")", new SharedWindow().check(n), -2);
        }
    }

    private static void lastCall() {
        Due.says("An object is used for at most 512 calls after it has been made");
        SharedWindow window = new SharedWindow();
        int calls = 0;
        Due.terrace(window, "a0;b0;A0@0-11");
        Due.rota(window, "6(ab)");
        Due.law(window, "c1(1=1);j1(1=1)");
        calls += 6;
        while (calls < 508) {
            Due.is("one day more", window.days(1), 12);
            calls++;
        }
        Due.is("the 509th", window.count(5), 502 * 12);
        Due.is("the 510th", window.keep(), 502);
        Due.yes("the 511th", window.undo());
        Due.is("the 512th", window.houseIs(1, 1), 502 * 6);
    }

    private static void count() {
        Due.says("0 THE DAY, 1 told HOUSES (bits), 2 told THINGS (bits), 3 in which HOUSE THE WINDOW is (nobody's: -2), 4 what it BRINGS (bits), 5 CRACKS, 6 RULES, 7 bytes of the tape, 8 X, 9 JOY of all, 10 how many THINGS it BRINGS, 11 TURNS that are a HOUSE's. NONE for others.");
        SharedWindow window = Due.street(Due.wholeTerrace(0), "ap9-p", "x(1=2);".repeat(15) + "c9(1=1)");
        window.days(1);
        for (int i = 0; i < 13; i++) {
            window.feed(0, 0, 0, 0, 0);
        }
        int x = window.count(8);
        counts(window, 1, 65535, 65535, 15, 65535, 18, 16, 260, x, 16 + 16 + 16, 16, 3);
        Due.is("three draws", x, 20196);
        Due.is("all turns", Due.street("a0", "9aaaa").count(11), 12);
        for (int what : new int[] {LEAST, -11, -2, -1, 12, 13, 100, MOST}) {
            Due.is("count(" + what + ")", window.count(what), -1);
            Due.is("of a new object", new SharedWindow().count(what), -1);
        }
    }
}
