/** Promise 6 and A ROTA: each sentence that names a bound. */
public final class RotaBoundsTest {
    private static final String HOUSES = "abcdefghijklmnop";
    private static final String TIMES = "23456789";

    public static void main(String[] args) {
        lengths();
        signs();
        rounds();
        tooMany();
        strangers();
        faultsStay();
        replaces();
        Due.end("RotaBoundsTest");
    }

    private static SharedWindow allHouses() {
        SharedWindow window = new SharedWindow();
        Due.terrace(window, Due.wholeTerrace(0));
        return window;
    }

    /** Of a street where a to h are told, and no others. */
    private static SharedWindow street() {
        SharedWindow window = new SharedWindow();
        Due.terrace(window, "a0;b0;c0;d0;e0;f0;g0;h0");
        return window;
    }

    private static void turns(String text, String due) {
        SharedWindow window = street();
        Due.is(text, Due.rota(window, text), due.length());
        for (int turn = 0; turn < 12; turn++) {
            char holder = turn < due.length() ? due.charAt(turn) : '-';
            Due.is(text + " rotaIs(" + turn + ")", window.rotaIs(turn), holder == '-' ? -2 : holder - 'a');
        }
    }

    private static void fault(String text, int number, int place) {
        Due.is(text, Due.rota(street(), text), Due.fault(number, place));
    }

    private static void lengths() {
        Due.says("A ROTA: a TEXT of at most 60 bytes, no blanks");
        String text = "((a))".repeat(12);
        SharedWindow window = street();
        Due.is("60 bytes", Due.put(window, text), 60);
        Due.is("rota(60)", window.rota(60), 12);
        Due.is("61 bytes", Due.put(window, "((b))".repeat(12) + "b"), 61);
        Due.is("rota(61)", window.rota(61), -1);
        Due.is("the tape stays", window.count(7), 80);
        Due.is("the one before stays", window.rotaIs(11), 0);
        Due.is("the first 60", window.rota(60), 12);
        Due.is("rotaIs(11)", window.rotaIs(11), 1);
        turns("a", "a");
        fault(" a", 1, 0);
        fault("a ", 1, 1);
        fault("2 a", 1, 1);
        fault("( a)", 1, 1);
    }

    /** Behind what stands ahead only some signs can stand, and perhaps the end. */
    private static void onlyThese(String ahead, String signs, boolean end) {
        int place = ahead.length();
        for (int sign = 0; sign < 256; sign++) {
            int got = Due.rota(allHouses(), ahead + (char) sign);
            Due.is(ahead + " and sign " + sign, got == Due.fault(1, place) ? 1 : 0, signs.indexOf(sign) >= 0 ? 0 : 1);
        }
        if (place > 0) {
            int got = Due.rota(allHouses(), ahead);
            Due.is(ahead + " and the end", got == Due.fault(1, place) ? 1 : 0, end ? 0 : 1);
        }
    }

    private static void signs() {
        String turn = HOUSES + "-(";
        Due.says("a letter a to p or - (45, nobody's), ahead of each perhaps a digit 2 to 9 (so many)");
        onlyThese("", turn + TIMES, false);
        onlyThese("a", turn + TIMES, true);
        onlyThese("-", turn + TIMES, true);
        onlyThese("2", turn, false);
        onlyThese("9", turn, false);
        onlyThese("2a", turn + TIMES, true);
        onlyThese("a2", turn, false);
        Due.says("or (TURNS), ahead of it perhaps a digit 2 to 9 (so many times)");
        onlyThese("(", turn + TIMES, false);
        onlyThese("2(", turn + TIMES, false);
        onlyThese("(a", turn + TIMES + ")", false);
        onlyThese("(2", turn, false);
        onlyThese("(a)", turn + TIMES, true);
        onlyThese("((", turn + TIMES, false);
        onlyThese("((a", turn + TIMES + ")", false);
        onlyThese("((a)", turn + TIMES + ")", false);
        onlyThese("((a))", turn + TIMES, true);

        Due.says("ahead of each perhaps a digit 2 to 9 (so many)");
        for (int times = 2; times <= 9; times++) {
            turns(times + "b", "b".repeat(times));
            turns(times + "-", "-".repeat(times));
            turns("c" + times + "bd", "c" + "b".repeat(times) + "d");
        }
        fault("0a", 1, 0);
        fault("1a", 1, 0);
        fault("a1b", 1, 1);
        fault("10a", 1, 0);
        fault("22a", 1, 1);
        Due.says("ahead of it perhaps a digit 2 to 9 (so many times)");
        for (int times = 2; times <= 9; times++) {
            turns(times + "(b)", "b".repeat(times));
            if (times <= 6) {
                turns(times + "(b-)", "b-".repeat(times));
            }
        }
        fault("1(a)", 1, 0);
        fault("0(a)", 1, 0);
    }

    private static void rounds() {
        Due.says("5 a third ( that is open in another one, at it");
        turns("((a))", "a");
        turns("(a)(b)(c)(d)", "abcd");
        turns("((a)(b)(c))", "abc");
        turns("2(a2(b)c)", "abbcabbc");
        fault("(((", 5, 2);
        fault("(((a)))", 5, 2);
        fault("((a(", 5, 3);
        fault("((a)(b(", 5, 6);
        fault("2(2(2(", 5, 5);
        fault("(a(b)(c(d", 5, 7);
        // Where it can't stand it is no third one.
        fault("((22(", 1, 3);
        // Of two the one that is first.
        fault("(((?", 5, 2);
        fault("((?(", 1, 2);
        fault("9a9a(((", 6, 2);
        fault("(((9a9a)))", 5, 2);
    }

    private static void tooMany() {
        Due.says("12 at most in all (the others nobody's)");
        turns("abcdefghabc", "abcdefghabc");
        turns("abcdefghabcd", "abcdefghabcd");
        fault("abcdefghabcde", 6, 12);
        turns("9a2b", "aaaaaaaaabb");
        turns("9a3b", "aaaaaaaaabbb");
        fault("9a4b", 6, 2);
        turns("6(ab)", "abababababab");
        fault("7(ab)", 6, 0);
        turns("2(2(abc))", "abcabcabcabc");
        turns("9-3-", "-".repeat(12));
        fault("9-4-", 6, 2);
        Due.says("6 more than 12, at the first byte of what (or its digit) by which they are (asked when it ends; of an inner one first)");
        fault("9aaaaa", 6, 5);
        fault("9aaaa-", 6, 5);
        fault("9aaaa2b", 6, 5);
        fault("9a(bb)(bb)", 6, 8);
        fault("3(aabb)c", 6, 7);
        fault("4(aabb)", 6, 0);
        fault("a3(bbcc)", 6, 1);
        fault("(9a4b)", 6, 3);
        fault("2(9a4b)", 6, 4);
        fault("2(3(5a))", 6, 2);
        fault("2(3(4a))", 6, 0);
        fault("(2(7a))", 6, 1);
        fault("9a(4b)", 6, 3);
        fault("9a2(2b)", 6, 2);
        // It is asked when that ends: what comes ahead of the end is a fault ahead of it.
        fault("2(7a", 1, 4);
        fault("2(7a?", 1, 4);
        fault("9a9?", 1, 3);
        fault("9a9", 1, 3);
        fault("2(7a)?", 6, 0);
        fault("9a4b?", 6, 2);
        fault("9a4b(", 6, 2);
    }

    private static void strangers() {
        Due.says("7 a HOUSE that is not told, at its letter (the first TURN that is so, behind all others)");
        for (int house = 8; house < 16; house++) {
            fault("" + HOUSES.charAt(house), 7, 0);
            fault("a2(-3" + HOUSES.charAt(house) + ")", 7, 5);
        }
        turns("hgfedcba", "hgfedcba");
        fault("ap", 7, 1);
        fault("9p", 7, 1);
        fault("pi", 7, 0);
        fault("(a(bi)p)", 7, 4);
        fault("p?", 1, 1);
        fault("p(((", 5, 3);
        fault("9p4a", 6, 2);
        fault("9p4p", 6, 2);
        fault("p)", 1, 1);
        fault("(p", 1, 2);
        Due.is("no house told", Due.rota(new SharedWindow(), "a"), Due.fault(7, 0));
        Due.is("nobody's will do", Due.rota(new SharedWindow(), "9-3-"), 12);
        Due.is("all houses told", Due.rota(allHouses(), "abcdefghijkl"), 12);
        Due.is("all houses told", Due.rota(allHouses(), "mnop"), 4);
    }

    private static void faultsStay() {
        Due.says("how many TURNS; a FAULT (the one before stays); NONE: as above");
        String[] faulty = {"?", "a", "(((", "9b9b", "bb(b", "p", "2(7b)"};
        int[] due = {-1000, -7000, -5002, -6002, -1004, -7000, -6000};
        for (int i = 0; i < faulty.length; i++) {
            SharedWindow window = Due.street("b1;c7;B1@2-3", "9bc-b", "c1(w<5)");
            window.days(1);
            String before = Due.all(window);
            Due.is(faulty[i], Due.rota(window, faulty[i]), due[i]);
            Due.is("empty then", window.count(7), 0);
            Due.same(faulty[i], Due.all(window), before);
            Due.is("none behind a fault", Due.rota(window, "-c"), 2);
            Due.is("it alone is told", window.count(11), 1);
        }
    }

    private static void replaces() {
        Due.says("by the first n bytes of the tape (1 to 60; empty then), in place of the one before: how many TURNS");
        SharedWindow window = Due.street("a0;b6;A0@0-11", "6(ab)", "c1(1=1)");
        window.days(1);
        int joy = window.count(9);
        Due.is("a shorter one", Due.rota(window, "b"), 1);
        Due.is("count(11)", window.count(11), 1);
        Due.is("rotaIs(0)", window.rotaIs(0), 1);
        for (int turn = 1; turn < 12; turn++) {
            Due.is("the others nobody's", window.rotaIs(turn), -2);
        }
        Due.is("nobody's alone", Due.rota(window, "-"), 1);
        Due.is("count(11)", window.count(11), 0);
        Due.is("joy stays", window.count(9), joy);
        Due.is("the window stays", window.count(3), 1);
        Due.is("cracks stay", window.count(5), 12);
        Due.is("the day stays", window.count(0), 1);
    }
}
