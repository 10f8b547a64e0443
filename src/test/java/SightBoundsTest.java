/** Promises 9, 10, 12, 13, 14, 18, 20 and 22, who sees what when: each sentence that names a bound. */
public final class SightBoundsTest {
    private static final int LEAST = Integer.MIN_VALUE;
    private static final int MOST = Integer.MAX_VALUE;
    private static final int[] NO_TURN = {LEAST, -12, -2, -1, 12, 13, 24, MOST};
    private static final int[] NO_LETTER = {LEAST, -16, -2, -1, 16, 17, 32, MOST};
    private static final int[] NO_HALF = {LEAST, -2, -1, 2, 3, MOST};

    public static void main(String[] args) {
        sides();
        times();
        sees();
        houseIs();
        dark();
        next();
        light();
        seers();
        clearest();
        whoHad();
        second();
        Due.end("SightBoundsTest");
    }

    private static SharedWindow whole(int turn) {
        return Due.street(Due.wholeTerrace(turn), "");
    }

    private static void sides() {
        Due.says("if the THING's SIDE is its FACING, or beside it (11 and 0 are beside each other), and the THING is to be seen then");
        for (int facing = 0; facing < 12; facing++) {
            for (int side = 0; side < 12; side++) {
                SharedWindow window = Due.street("a" + facing + ";A" + side + "@6-6", "");
                int round = (side - facing + 12) % 12;
                Due.is(facing + " and " + side, window.sees(0, 6), round == 0 || round == 1 || round == 11 ? 1 : 0);
                Due.is("not then", window.sees(0, 5) + window.sees(0, 7), 0);
            }
        }
    }

    /** In which TURNS a THING is to be seen, as bits. */
    private static void time(int from, int until, int due) {
        SharedWindow window = Due.street("a0;A0@" + from + "-" + until, "");
        int seen = 0;
        for (int turn = 0; turn < 12; turn++) {
            seen |= window.sees(0, turn) << turn;
        }
        Due.is("from " + from + " to " + until, seen, due);
    }

    private static void times() {
        Due.says("to be seen from a TURN to a TURN (0 to 11, both with; is the first above the second: round by 11 to 0)");
        time(0, 0, 1);
        time(11, 11, 2048);
        time(5, 5, 32);
        time(3, 5, 8 + 16 + 32);
        time(0, 11, 4095);
        time(0, 10, 2047);
        time(1, 11, 4094);
        time(11, 0, 2048 + 1);
        time(10, 1, 1024 + 2048 + 1 + 2);
        time(1, 0, 4095);
        time(6, 5, 4095);
        time(11, 10, 4095);
        time(6, 4, 4095 - 32);
        time(11, 9, 4095 - 1024);
        time(2, 0, 4095 - 2);
    }

    private static void sees() {
        Due.says("What a told HOUSE SEES in a TURN: bits; NONE: no such ones");
        for (int turn = 0; turn < 12; turn += 11) {
            SharedWindow window = whole(turn);
            for (int house = 0; house < 16; house++) {
                Due.is("all things", window.sees(house, turn), 65535);
                Due.is("none then", window.sees(house, 11 - turn), 0);
            }
        }
        SharedWindow some = Due.street("b0;o0;P0@0-11", "");
        Due.is("the least house", some.sees(1, 0), 32768);
        Due.is("the greatest house, the last turn", some.sees(14, 11), 32768);
        Due.is("just below", some.sees(0, 0), -1);
        Due.is("just above", some.sees(2, 0), -1);
        Due.is("just below", some.sees(13, 0), -1);
        Due.is("just above", some.sees(15, 0), -1);
        SharedWindow window = whole(0);
        for (int odd : NO_TURN) {
            Due.is("sees(0, " + odd + ")", window.sees(0, odd), -1);
            Due.is("sees(15, " + odd + ")", window.sees(15, odd), -1);
        }
        for (int odd : NO_LETTER) {
            Due.is("sees(" + odd + ", 0)", window.sees(odd, 0), -1);
        }
        for (int house = 0; house < 16; house++) {
            Due.is("no house", new SharedWindow().sees(house, 0), -1);
        }
        Due.is("no thing", Due.street("a0", "").sees(0, 0), 0);
    }

    private static void houseIs() {
        Due.says("Of a told HOUSE, what 0 FACING, 1 JOY, 2 TURNS, 3 DARK, 4 what it SEES in any TURN (bits); NONE for others");
        SharedWindow window = Due.street("b11;o0;P0@5-5", "3bo");
        window.days(1);
        int[][] due = {{11, 0, 3, 9, 32768}, {0, 0, 1, 11, 32768}};
        for (int what = 0; what <= 4; what++) {
            Due.is("houseIs(1, " + what + ")", window.houseIs(1, what), due[0][what]);
            Due.is("houseIs(14, " + what + ")", window.houseIs(14, what), due[1][what]);
            for (int house : new int[] {0, 2, 13, 15, LEAST, -16, -2, -1, 16, 17, 33, MOST}) {
                Due.is("houseIs(" + house + ", " + what + ")", window.houseIs(house, what), -1);
            }
        }
        for (int what : new int[] {LEAST, -2, -1, 5, 6, 100, MOST}) {
            Due.is("houseIs(1, " + what + ")", window.houseIs(1, what), -1);
        }
        window = whole(11);
        for (int house = 0; house < 16; house++) {
            Due.is("all things", window.houseIs(house, 4), 65535);
            Due.is("none told", new SharedWindow().houseIs(house, 0), -1);
        }
        Due.is("no thing", Due.street("a0", "").houseIs(0, 4), 0);
        Due.is("all turns", Due.street("a0", "9aaaa").houseIs(0, 2), 12);
        Due.is("no turn", Due.street("a0", "").houseIs(0, 2), 0);
    }

    private static void dark(String rota, int due) {
        Due.is(rota, Due.street("a0;b0", rota).houseIs(0, 3), due);
    }

    private static void dark() {
        Due.says("DARK: the most TURNS one behind the other, round, that are not a HOUSE's (none is: 12)");
        dark("-", 12);
        dark("9bbbb", 12);
        dark("9aaaa", 0);
        dark("9aaab", 1);
        dark("b9aaa", 1);
        dark("b9aab", 2);
        dark("a", 11);
        dark("9---a", 11);
        dark("5-a", 11);
        dark("a5-a5-", 5);
        dark("bba5-aaab", 5);
        dark("3-a3-aa3-", 6);
        dark("2-a7-a-", 7);
        dark("6(ab)", 1);
    }

    private static void next() {
        Due.says("NEXT: behind how many TURNS from a TURN on (0: in it), round, it is a HOUSE's by THE ROTA and it SEES a THING");
        SharedWindow window = Due.street("a0;p6;A0@0-11;P6@11-11;B0@5-5;C6@0-11", "a9--p");
        for (int turn = 0; turn < 12; turn++) {
            Due.is("next(0, 0, " + turn + ")", window.next(0, 0, turn), (12 - turn) % 12);
            Due.is("next(15, 15, " + turn + ")", window.next(15, 15, turn), 11 - turn);
        }
        Due.says("NEXT of a told HOUSE, a told THING from a TURN on; -2: never; NONE: no such ones");
        Due.is("it is seen when it is not its turn", window.next(0, 1, 0), -2);
        Due.is("it is not seen from there", window.next(0, 2, 0), -2);
        Due.is("a house without a turn", Due.street("a0;A0@0-11", "").next(0, 0, 0), -2);
        for (int odd : NO_TURN) {
            Due.is("next(0, 0, " + odd + ")", window.next(0, 0, odd), -1);
        }
        for (int odd : NO_LETTER) {
            Due.is("next(" + odd + ", 0, 0)", window.next(odd, 0, 0), -1);
            Due.is("next(0, " + odd + ", 0)", window.next(0, odd, 0), -1);
        }
        for (int house = 1; house < 15; house++) {
            Due.is("a house that is not told", window.next(house, 0, 0), -1);
        }
        for (int thing = 3; thing < 15; thing++) {
            Due.is("a thing that is not told", window.next(0, thing, 0), -1);
        }
        Due.is("nothing told", new SharedWindow().next(0, 0, 0), -1);
        Due.is("all told", Due.street(Due.wholeTerrace(11), "9---p").next(15, 15, 0), 11);
    }

    private static void light(String things, int number, int together) {
        SharedWindow window = Due.street("a0;b0" + things, "bb");
        Due.is(things + " light(0, 0)", window.light(0, 0), number);
        Due.is(things + " light(0, 1)", window.light(0, 1), together);
    }

    private static void light() {
        Due.says("in how many TURNS it SEES anything (whosever they are); the most such one behind the other, round (all: 12)");
        light("", 0, 0);
        light(";A6@0-11", 0, 0);
        light(";A0@0-0", 1, 1);
        light(";A0@11-11", 1, 1);
        light(";A0@11-0", 2, 2);
        light(";A0@0-11", 12, 12);
        light(";A0@1-11", 11, 11);
        light(";A0@6-4", 11, 11);
        light(";A0@0-5;B0@6-11", 12, 12);
        light(";A0@10-11;B0@0-1;C0@4-6", 7, 4);
        light(";A0@10-10;B0@0-0;C0@2-2", 3, 1);
        Due.says("LIGHT of a told HOUSE, what 0 how many, 1 one behind the other; NONE: no such ones");
        SharedWindow window = Due.street("b0;o0;A0@0-2", "");
        for (int odd : NO_HALF) {
            Due.is("light(1, " + odd + ")", window.light(1, odd), -1);
        }
        for (int house : new int[] {0, 2, 13, 15, LEAST, -1, 16, 17, MOST}) {
            Due.is("light(" + house + ", 0)", window.light(house, 0), -1);
            Due.is("light(" + house + ", 1)", window.light(house, 1), -1);
        }
        Due.is("light(14, 1)", window.light(14, 1), 3);
        Due.is("nothing told", new SharedWindow().light(0, 0), -1);
    }

    private static void seers() {
        Due.says("SEERS of a THING: told HOUSES that SEE it in any TURN (bits)");
        Due.is("in the first turn", Due.street("a0;p0;A0@0-0", "").seers(0), 32769);
        Due.is("in the last turn", Due.street("a0;p0;A0@11-11", "p").seers(0), 32769);
        Due.says("SEERS of a told THING: bits; NONE: no such one");
        SharedWindow window = whole(11);
        for (int thing = 0; thing < 16; thing++) {
            Due.is("all told", window.seers(thing), 65535);
            Due.is("nothing told", new SharedWindow().seers(thing), -1);
        }
        for (int odd : NO_LETTER) {
            Due.is("seers(" + odd + ")", window.seers(odd), -1);
        }
        window = Due.street("p0;a11;b1;c2;d10;B0@0-0;O6@0-11", "");
        Due.is("round by 11 to 0", window.seers(1), 32768 + 1 + 2);
        Due.is("none sees it", window.seers(14), 0);
        for (int thing : new int[] {0, 2, 13, 15}) {
            Due.is("not told", window.seers(thing), -1);
        }
        Due.is("no house", Due.street("A0@0-0", "").seers(0), 0);
    }

    private static void clearest(String terrace, int which, int number) {
        SharedWindow window = Due.street(terrace, "");
        Due.is(terrace + " clearest(0)", window.clearest(0), which);
        Due.is(terrace + " clearest(1)", window.clearest(1), number);
    }

    private static void clearest() {
        Due.says("that in which most twos of told HOUSE and THING are so that the one SEES the other (of like ones the lowest); how many");
        clearest("a0", 0, 0);
        clearest("A0@3-3", 0, 0);
        clearest("a0;A6@3-3", 0, 0);
        clearest("a0;A0@11-11", 11, 1);
        clearest("a0;A0@11-0", 0, 1);
        clearest("a0;A0@10-11", 10, 1);
        clearest("a0;b0;A0@10-11;B0@11-11", 11, 4);
        clearest("a0;b0;A0@1-1;B6@2-2;C6@2-2;D6@2-2", 1, 2);
        clearest(Due.wholeTerrace(11), 11, 256);
        clearest(Due.wholeTerrace(0), 0, 256);
        Due.says("CLEAREST TURN, what 0 which, 1 how many; NONE: no such what");
        Due.is("nothing told", new SharedWindow().clearest(0), 0);
        Due.is("nothing told", new SharedWindow().clearest(1), 0);
        for (int odd : NO_HALF) {
            Due.is("clearest(" + odd + ")", whole(0).clearest(odd), -1);
        }
    }

    private static void whoHad() {
        Due.says("told HOUSES that, in a TURN, whosever it is, SEE just some THINGS (bits; none: those who SEE nothing)");
        SharedWindow window = Due.street("a0;b2;p6;A1@0-0;B0@0-0;P6@11-11", "p");
        Due.is("just both", window.whoHad(0, 3), 1);
        Due.is("just one", window.whoHad(0, 1), 2);
        Due.is("just the other", window.whoHad(0, 2), 0);
        Due.is("nothing", window.whoHad(0, 0), 32768);
        Due.is("nothing", window.whoHad(11, 0), 3);
        Due.is("the last", window.whoHad(11, 32768), 32768);
        Due.is("one not told too", window.whoHad(0, 3 + 4), 0);
        Due.says("WHO HAD IT in a TURN by some THINGS (0 to 65535): bits; NONE: no such ones");
        Due.is("all told", whole(11).whoHad(11, 65535), 65535);
        Due.is("all told, none then", whole(11).whoHad(10, 0), 65535);
        Due.is("all but one", whole(11).whoHad(11, 65534), 0);
        Due.is("nothing told", new SharedWindow().whoHad(0, 0), 0);
        Due.is("nothing told", new SharedWindow().whoHad(11, 65535), 0);
        for (int odd : NO_TURN) {
            Due.is("whoHad(" + odd + ", 0)", window.whoHad(odd, 0), -1);
        }
        for (int odd : new int[] {LEAST, -65535, -1, 65536, 65537, MOST}) {
            Due.is("whoHad(0, " + odd + ")", window.whoHad(0, odd), -1);
        }
    }

    private static void second(String terrace, int number, int which) {
        SharedWindow window = terrace.isEmpty() ? new SharedWindow() : Due.street(terrace, "");
        Due.is(terrace + " second(0)", window.second(0), number);
        Due.is(terrace + " second(1)", window.second(1), which);
    }

    private static void second() {
        Due.says("the fewest told HOUSES such that each told THING that any can see is SEEN by one of them in some TURN; which (least bits; of no THING that any can see: none)");
        second("", 0, 0);
        second("a0;b0", 0, 0);
        second("A0@0-0;B0@0-0", 0, 0);
        second("a0;A6@0-11", 0, 0);
        second("a0;B0@0-11", 1, 1);
        second("a0;P0@0-11", 1, 1);
        second("p0;A0@0-0;B6@0-11", 1, 32768);
        second(Due.wholeTerrace(0), 1, 1);
        second("a0;b0;c0;A0@0-0", 1, 1);
        // One that comes later sees all that two ahead of it see.
        second("a11;b1;p0;A11@0-0;B1@0-0", 1, 32768);
        // a or b, and c or d: a and c are the least bits.
        second("a0;b1;c4;d5;A1@0-0;B4@0-0", 2, 1 + 4);
        // a is needed; c sees all that is missing then, d only a part.
        second("a0;b1;c3;d5;A11@0-0;B1@0-0;C2@0-0;D4@0-0", 2, 1 + 4);
        // The lowest house is not among them.
        second("a1;b0;c2;d2;e3;A11@0-0;B3@0-0;C1@0-0", 2, 2 + 4);
        // With g it is c or e that is missing: c is the least, though e sees more.
        second("c5;e6;g8;i7;m4;o9;A2@0-0;B5@0-0;C9@0-0;D7@0-0", 2, 4 + 64);
        // Four that see three ways each, six that see one THING each.
        second("a1;b4;c7;d10;A0@0-0;B1@0-0;C2@0-0;D3@0-0;E4@0-0;F5@0-0;G6@0-0;H7@0-0;I8@0-0;J9@0-0;K10@0-0;L11@0-0", 4, 15);
        second("a0;b2;c4;d6;e8;f10;A0@0-0;B2@0-0;C4@0-0;D6@0-0;E8@0-0;F10@0-0", 6, 63);
        second("k0;l2;m4;n6;o8;p10;A0@0-0;B2@0-0;C4@0-0;D6@0-0;E8@0-0;F10@0-0", 6, 63 << 10);
        // All twelve ways are faced: every third one is enough, and the lowest of those that do so.
        second("a0;b1;c2;d3;e4;f5;g6;h7;i8;j9;k10;l11;A0@0-0;B1@0-0;C2@0-0;D3@0-0;E4@0-0;F5@0-0;G6@0-0;H7@0-0;"
            + "I8@0-0;J9@0-0;K10@0-0;L11@0-0", 4, 1 + 8 + 64 + 512);
        // One street after another, of which the first has more houses.
        SharedWindow window = Due.street("a0;b2;c4;d6;e8;f10;A0@0-0;B2@0-0;C4@0-0;D6@0-0;E8@0-0;F10@0-0", "");
        Due.is("six", window.second(1), 63);
        Due.terrace(window, "c1;d5;e7;f10;A0@0-0;B1@0-0;C4@0-0;D8@0-0;E10@0-0");
        Due.is("four of four", window.second(1), 4 + 8 + 16 + 32);
        Due.terrace(window, "b1;d5;f4;A0@0-0;B1@0-0;C4@0-0");
        Due.is("two of three", window.second(1), 2 + 8);
        Due.terrace(window, "b8;n6;A1@0-0;B4@0-0");
        Due.is("none of two", window.second(1), 0);
        Due.terrace(window, "c5;e6;g8;i7;m4;o9;A2@0-0;B5@0-0;C9@0-0;D7@0-0");
        Due.is("two of six", window.second(1), 4 + 64);
        Due.says("SECOND WINDOWS, what 0 how many, 1 which; NONE: no such what");
        for (int odd : NO_HALF) {
            Due.is("second(" + odd + ")", whole(0).second(odd), -1);
        }
    }
}
