/** Promises 2, 11, 15, 16, 17 and 21, what THE ROTA makes of it: each sentence that names a bound. */
public final class TurnBoundsTest {
    private static final int LEAST = Integer.MIN_VALUE;
    private static final int MOST = Integer.MAX_VALUE;
    private static final int[] NO_TURN = {LEAST, -12, -2, -1, 12, 13, 24, MOST};

    public static void main(String[] args) {
        turn();
        rotaIs();
        ways();
        seen();
        swapped();
        spread();
        readers();
        bestBreath();
        Due.end("TurnBoundsTest");
    }

    private static String turns(SharedWindow window) {
        StringBuilder text = new StringBuilder();
        for (int turn = 0; turn < 12; turn++) {
            text.append(window.rotaIs(turn)).append(' ');
        }
        return text.toString();
    }

    private static void turn() {
        Due.says("A TURN is a told HOUSE's, or nobody's (-1): true; false: no such ones");
        SharedWindow window = Due.street(Due.wholeTerrace(0), "");
        for (int t = 0; t < 12; t += 11) {
            for (int house : new int[] {0, 15, -1, 7}) {
                Due.yes("turn(" + t + ", " + house + ")", window.turn(t, house));
                Due.is("rotaIs(" + t + ")", window.rotaIs(t), house < 0 ? -2 : house);
            }
        }
        Due.is("two turns are a house's", window.count(11), 2);
        String before = turns(window);
        for (int odd : NO_TURN) {
            Due.no("turn(" + odd + ", 0)", window.turn(odd, 0));
            Due.no("turn(" + odd + ", -1)", window.turn(odd, -1));
        }
        for (int odd : new int[] {LEAST, -16, -3, -2, 16, 17, 31, 32, MOST}) {
            Due.no("turn(0, " + odd + ")", window.turn(0, odd));
        }
        Due.is("count(11)", window.count(11), 2);
        Due.same("refused", turns(window), before);
        window = Due.street("b0;o0", "b9--o");
        for (int house = 0; house < 16; house++) {
            Due.is("turn(5, " + house + ")", window.turn(5, house) ? 1 : 0, house == 1 || house == 14 ? 1 : 0);
        }
        Due.is("the last that could", window.rotaIs(5), 14);
        SharedWindow none = new SharedWindow();
        for (int house = 0; house < 16; house++) {
            Due.no("no house told", none.turn(0, house));
        }
        Due.yes("nobody's", none.turn(11, -1));
    }

    private static void rotaIs() {
        Due.says("THE ROTA, what 0 to 11 whose that TURN is (nobody's: -2), 100 THE WAY, 101 round, 102 SEEN by it (bits); NONE: no such what");
        SharedWindow window = Due.street("a0;p0;P0@11-11", "a9--p");
        Due.is("rotaIs(0)", window.rotaIs(0), 0);
        Due.is("rotaIs(1)", window.rotaIs(1), -2);
        Due.is("rotaIs(10)", window.rotaIs(10), -2);
        Due.is("rotaIs(11)", window.rotaIs(11), 15);
        Due.is("rotaIs(100)", window.rotaIs(100), 15);
        Due.is("rotaIs(101)", window.rotaIs(101), 30);
        Due.is("rotaIs(102)", window.rotaIs(102), 32768);
        for (int odd : new int[] {LEAST, -100, -2, -1, 12, 13, 99, 103, 104, 112, MOST}) {
            Due.is("rotaIs(" + odd + ")", window.rotaIs(odd), -1);
        }
        Due.says("THE ROTA has TURNS 0 to 11, each a HOUSE's or nobody's (at first nobody's)");
        for (int turn = 0; turn < 12; turn++) {
            Due.is("at first", new SharedWindow().rotaIs(turn), -2);
        }
    }

    private static void way(String rota, int way, int round) {
        SharedWindow window = Due.street("a0;b0;p0", rota);
        Due.is(rota + " way", window.rotaIs(100), way);
        Due.is(rota + " round", window.rotaIs(101), round);
    }

    private static void ways() {
        Due.says("from TURN to TURN that is a HOUSE's (the first from nowhere), added up; round: and back from the last to the first");
        way("-", 0, 0);
        way("p", 0, 0);
        way("9---p", 0, 0);
        way("a9--p", 15, 30);
        way("p9--a", 15, 30);
        way("9aaaa", 0, 0);
        way("6(ap)", 11 * 15, 12 * 15);
        way("apa", 30, 30);
        way("-b--ap-", 16, 30);
        Due.is("no house told", new SharedWindow().rotaIs(100), 0);
        Due.is("no house told", new SharedWindow().rotaIs(101), 0);
    }

    private static void seen() {
        Due.says("SEEN: THINGS all HOUSES see by THE ROTA; those a HOUSE SEES in any TURN at all");
        Due.is("nothing told", new SharedWindow().rotaIs(102), 0);
        Due.is("no turn", Due.street(Due.wholeTerrace(0), "").rotaIs(102), 0);
        Due.is("the first turn", Due.street(Due.wholeTerrace(0), "p").rotaIs(102), 65535);
        Due.is("the last turn", Due.street(Due.wholeTerrace(11), "9---p").rotaIs(102), 65535);
        Due.is("the turn beside it", Due.street(Due.wholeTerrace(11), "9--p").rotaIs(102), 0);
        Due.is("by two houses", Due.street("a0;b6;A0@0-0;B6@1-1;C0@1-1;D6@0-0", "ab").rotaIs(102), 3);
    }

    private static void swapped() {
        Due.says("THE WAY if two TURNS (or one and itself) were each other's");
        SharedWindow window = Due.street("a0;b0;p0", "ab8-bp");
        Due.is("the first and the last", window.ifSwapped(0, 11), 14 + 0 + 1);
        Due.is("the last and the first", window.ifSwapped(11, 0), 14 + 0 + 1);
        Due.is("with nobody's", window.ifSwapped(0, 5), 1 + 1 + 14);
        for (int turn = 0; turn < 12; turn++) {
            Due.is("one and itself", window.ifSwapped(turn, turn), 15);
        }
        Due.is("nothing is changed", window.rotaIs(0), 0);
        Due.is("nothing is changed", window.rotaIs(11), 15);
        Due.is("nothing told", new SharedWindow().ifSwapped(0, 11), 0);
        Due.says("IF SWAPPED; NONE: no such TURNS");
        for (int odd : NO_TURN) {
            Due.is("ifSwapped(0, " + odd + ")", window.ifSwapped(0, odd), -1);
            Due.is("ifSwapped(" + odd + ", 11)", window.ifSwapped(odd, 11), -1);
            Due.is("ifSwapped(" + odd + ", " + odd + ")", window.ifSwapped(odd, odd), -1);
        }
        Due.is("nothing is changed", window.rotaIs(100), 15);
    }

    private static void spread() {
        Due.says("TURNS of the told HOUSE that has most less those of the one that has fewest (it may have none)");
        Due.is("one house, no turn", Due.street("a0", "").spread(), 0);
        Due.is("one house, all turns", Due.street("a0", "9aaaa").spread(), 0);
        Due.is("two houses, all turns", Due.street("a0;p0", "9pppp").spread(), 12);
        Due.is("one less", Due.street("a0;p0", "9pppa").spread(), 10);
        Due.is("as many", Due.street("a0;p0", "6(ap)").spread(), 0);
        Due.is("all houses", Due.street(Due.wholeTerrace(0), "abcdefghijkl").spread(), 1);
        Due.is("all houses, none has a turn", Due.street(Due.wholeTerrace(0), "").spread(), 0);
        Due.says("SPREAD (no HOUSES: 0)");
        Due.is("no houses", new SharedWindow().spread(), 0);
        Due.is("a thing alone", Due.street("A0@0-0", "").spread(), 0);
    }

    private static void readers() {
        Due.says("READ from a TURN on by the next n (0 to 12): bits; NONE: no such ones");
        SharedWindow window = Due.street(Due.wholeTerrace(0), "");
        Due.is("no turns", window.readers(0, 12), 0);
        window = Due.street("a0;b0;c0;d0;e0;f0;g0;h0;i0;j0;k0;p0;A0@0-11", "abcdefghijkp");
        int[] due = {0, 2, 6, 14, 30, 62, 126, 254, 510, 1022, 2046, 34814, 34815};
        for (int n = 0; n <= 12; n++) {
            Due.is("readers(0, " + n + ")", window.readers(0, n), due[n]);
        }
        Due.is("round by 11 to 0", window.readers(11, 1), 1);
        Due.is("round by 11 to 0", window.readers(10, 2), 32768 + 1);
        for (int odd : NO_TURN) {
            Due.is("readers(" + odd + ", 0)", window.readers(odd, 0), -1);
            Due.is("readers(" + odd + ", 12)", window.readers(odd, 12), -1);
        }
        for (int odd : new int[] {LEAST, -12, -1, 13, 14, 24, MOST}) {
            Due.is("readers(0, " + odd + ")", window.readers(0, odd), -1);
        }
        Due.is("nothing told", new SharedWindow().readers(11, 12), 0);
        Due.says("nobody's: nobody reads, it stays; that TURN's own HOUSE may be among them");
        window = Due.street("a0;A0@0-11", "9---a");
        Due.is("its own, behind twelve", window.readers(11, 12), 1);
        Due.is("not behind eleven", window.readers(11, 11), 0);
        Due.is("by eleven of nobody's", window.readers(0, 11), 1);
        Due.is("by ten of nobody's", window.readers(0, 10), 0);
        Due.says("till one whose HOUSE SEES nothing then wipes it (it reads, too)");
        window = Due.street("a0;b6;c0;A0@0-11;B6@3-3", "abcb");
        Due.is("b wipes in turn 1", window.readers(0, 12), 2);
        Due.is("not in turn 3", window.readers(1, 12), 1 + 2 + 4);
        Due.is("it would be wiped then", window.readers(11, 2), 1 + 2);
        Due.is("it is wiped then", window.readers(11, 3), 1 + 2);
        Due.is("wiped by the last that reads", window.readers(1, 12), 7);
    }

    private static void bestBreath(String rota, int house, int turn, int number) {
        SharedWindow window = Due.street("a0;b6;c0;p0;A0@0-11", rota);
        Due.is(rota + " bestBreath(" + house + ", 0)", window.bestBreath(house, 0), turn);
        Due.is(rota + " bestBreath(" + house + ", 1)", window.bestBreath(house, 1), number);
    }

    private static void bestBreath() {
        Due.says("of its TURNS the one of which most HOUSES (others than it) READ in the next 12 (of like ones the lowest); how many");
        bestBreath("a", 0, 0, 0);
        bestBreath("9---a", 0, 11, 0);
        bestBreath("aa", 0, 0, 0);
        bestBreath("ap", 0, 0, 1);
        bestBreath("pa", 0, 1, 1);
        bestBreath("p9--a", 0, 11, 1);
        bestBreath("acap", 0, 0, 2);
        bestBreath("abacp", 0, 2, 3);
        bestBreath("bacpab", 0, 1, 3);
        bestBreath("pacb", 15, 0, 3);
        bestBreath("b", 1, 0, 0);
        // b itself wipes it, and is not counted.
        bestBreath("bcpb", 1, 0, 2);
        Due.says("BEST BREATH of a told HOUSE, what 0 the TURN, 1 how many (it has no TURN: -2, 0); NONE: no such ones");
        bestBreath("9cccc", 0, -2, 0);
        bestBreath("-", 15, -2, 0);
        SharedWindow window = Due.street("b0;o0", "bo");
        for (int house : new int[] {LEAST, -2, -1, 0, 2, 13, 15, 16, 17, MOST}) {
            Due.is("bestBreath(" + house + ", 0)", window.bestBreath(house, 0), -1);
            Due.is("bestBreath(" + house + ", 1)", window.bestBreath(house, 1), -1);
        }
        for (int odd : new int[] {LEAST, -2, -1, 2, 3, MOST}) {
            Due.is("bestBreath(1, " + odd + ")", window.bestBreath(1, odd), -1);
        }
        Due.is("nothing told", new SharedWindow().bestBreath(0, 0), -1);
    }
}
