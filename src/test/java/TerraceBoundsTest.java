/** Promise 5 and A TERRACE: each sentence that names a bound. */
public final class TerraceBoundsTest {
    private static final String HOUSES = "abcdefghijklmnop";
    private static final String THINGS = "ABCDEFGHIJKLMNOP";
    private static final String DIGITS = "0123456789";

    public static void main(String[] args) {
        lengths();
        lines();
        signs();
        digits();
        numbers();
        tooManyLines();
        twice();
        faultsStay();
        replaces();
        Due.end("TerraceBoundsTest");
    }

    private static void told(String text, int lines) {
        Due.is(text, Due.terrace(new SharedWindow(), text), lines);
    }

    private static void fault(String text, int number, int place) {
        Due.is(text, Due.terrace(new SharedWindow(), text), Due.fault(number, place));
    }

    /** Sixteen THINGS of ten bytes with their ; and so many HOUSES of four and of three. */
    private static String longText(int ofFour, int ofThree) {
        StringBuilder text = new StringBuilder();
        for (int i = 0; i < 16; i++) {
            text.append((char) ('A' + i)).append("11@10-11;");
        }
        for (int i = 0; i < ofFour + ofThree; i++) {
            text.append((char) ('a' + i)).append(i < ofFour ? "11;" : "0;");
        }
        text.setLength(text.length() - 1);
        return text.toString();
    }

    private static void lengths() {
        Due.says("A TERRACE: a TEXT of at most 200 bytes");
        SharedWindow window = new SharedWindow();
        Due.is("a text of 200 bytes", Due.put(window, longText(8, 3)), 200);
        Due.is("terrace(200)", window.terrace(200), 27);
        Due.is("its last house", window.houseIs(10, 0), 0);
        Due.is("a text of 201 bytes", Due.put(window, longText(9, 2)), 201);
        Due.is("terrace(201)", window.terrace(201), -1);
        Due.is("the one before stays", window.houseIs(8, 0), 0);
        Due.is("the tape stays", window.count(7), 220);
        Due.is("a digit less", window.terrace(200), Due.fault(1, 200));
        told("a0", 1);
    }

    private static void lines() {
        Due.says("LINES with a ; (59) between two (32 at most)");
        told("a0", 1);
        told("a0;b0", 2);
        told(Due.wholeTerrace(0).substring(0, Due.wholeTerrace(0).length() - 7), 31);
        told(Due.wholeTerrace(0), 32);
        fault(";a0", 1, 0);
        fault("a0;;b0", 1, 3);
        fault("a0;", 1, 3);
        fault("a0:b0", 1, 2);
        fault("a0<b0", 1, 2);

        Due.says("(none at first)");
        Due.is("count(1)", new SharedWindow().count(1), 0);
        Due.is("count(2)", new SharedWindow().count(2), 0);
    }

    /** Behind what stands ahead only some signs can stand, and perhaps the end. */
    private static void onlyThese(String ahead, String signs, boolean end) {
        int place = ahead.length();
        for (int sign = 0; sign < 256; sign++) {
            int got = Due.terrace(new SharedWindow(), ahead + (char) sign);
            boolean stands = signs.indexOf(sign) >= 0;
            Due.is(ahead + " and sign " + sign, got == Due.fault(1, place) ? 1 : 0, stands ? 0 : 1);
        }
        if (place > 0) {
            int got = Due.terrace(new SharedWindow(), ahead);
            Due.is(ahead + " and the end", got == Due.fault(1, place) ? 1 : 0, end ? 0 : 1);
        }
    }

    private static void signs() {
        Due.says("a letter a to p, a number of one or two digits (FACING)");
        onlyThese("", HOUSES + THINGS, false);
        onlyThese("c", DIGITS, false);
        onlyThese("c1", DIGITS + ";", true);
        onlyThese("c10", DIGITS + ";", true);
        onlyThese("c10;", HOUSES + THINGS, false);
        Due.says("or a letter A to P, a number (SIDE), @ (64), a number (from which TURN), - (45), a number (to which), of one or two digits");
        onlyThese("C", DIGITS, false);
        onlyThese("C1", DIGITS + "@", false);
        onlyThese("C10", DIGITS + "@", false);
        onlyThese("C1@", DIGITS, false);
        onlyThese("C1@1", DIGITS + "-", false);
        onlyThese("C1@10", DIGITS + "-", false);
        onlyThese("C1@1-", DIGITS, false);
        onlyThese("C1@1-1", DIGITS + ";", true);
        onlyThese("C1@1-10", DIGITS + ";", true);
        onlyThese("C1@1-10;", HOUSES + THINGS, false);

        Due.says("no blanks");
        fault(" a0", 1, 0);
        fault("a 0", 1, 1);
        fault("a0 ", 1, 2);
        fault("a0; b0", 1, 3);
        fault("A0 @0-0", 1, 2);
        fault("A0@0- 0", 1, 5);

        Due.says("FAULTS, the first from the left: 1 what can't stand there (the end, too)");
        fault("q", 1, 0);
        fault("a", 1, 1);
        fault("a0;bq;cq", 1, 4);
        fault("a0;b0;", 1, 6);

        Due.says("HOUSES a to p (0 to 15, in a row): told or not");
        for (int house = 0; house < 16; house++) {
            SharedWindow window = Due.street((char) ('a' + house) + "5", "");
            Due.is("count(1)", window.count(1), 1 << house);
            for (int other = 0; other < 16; other++) {
                Due.is("houseIs(" + other + ", 0)", window.houseIs(other, 0), other == house ? 5 : -1);
            }
        }
        Due.says("THINGS A to P (0 to 15): told or not");
        for (int thing = 0; thing < 16; thing++) {
            SharedWindow window = Due.street("b5;" + (char) ('A' + thing) + "5@2-2", "");
            Due.is("count(2)", window.count(2), 1 << thing);
            Due.is("sees(1, 2)", window.sees(1, 2), 1 << thing);
            for (int other = 0; other < 16; other++) {
                Due.is("seers(" + other + ")", window.seers(other), other == thing ? 2 : -1);
            }
        }
    }

    private static void digits() {
        Due.says("2 a third digit, at it");
        for (char digit = '0'; digit <= '9'; digit++) {
            fault("a00" + digit, 2, 3);
            fault("a11" + digit + ";b0", 2, 3);
            fault("A00" + digit + "@0-0", 2, 3);
            fault("A0@00" + digit + "-0", 2, 5);
            fault("A0@11-00" + digit, 2, 8);
        }
        // A third digit is there ahead of the end of the number, and 3 is asked at its end.
        fault("a120", 2, 3);
        fault("a999", 2, 3);
        fault("A0@120-0", 2, 5);
        fault("A0@0-990", 2, 7);
        fault("a0001", 2, 3);
    }

    private static void numbers() {
        Due.says("FACING 0 to 11 (twelve ways round)");
        for (int facing = 0; facing <= 11; facing++) {
            Due.is("facing " + facing, Due.street("h" + facing, "").houseIs(7, 0), facing);
            Due.is("of two digits", Due.street("h" + facing / 10 + facing % 10, "").houseIs(7, 0), facing);
        }
        Due.says("3 a number above 11, at its first digit (asked when it ends)");
        for (int number = 0; number <= 99; number++) {
            String two = "" + number / 10 + number % 10;
            boolean fine = number <= 11;
            Due.is("a" + two, Due.terrace(new SharedWindow(), "a" + two), fine ? 1 : Due.fault(3, 1));
            Due.is("A" + two, Due.terrace(new SharedWindow(), "A" + two + "@0-0"), fine ? 1 : Due.fault(3, 1));
            Due.is("A0@" + two, Due.terrace(new SharedWindow(), "A0@" + two + "-0"), fine ? 1 : Due.fault(3, 3));
            Due.is("A0@00-" + two, Due.terrace(new SharedWindow(), "A0@00-" + two), fine ? 1 : Due.fault(3, 6));
        }
        // When it ends: by a sign that can't stand there, by the end where it can't stand, too.
        fault("a12?", 3, 1);
        fault("a12", 3, 1);
        fault("A12", 3, 1);
        fault("A12?", 3, 1);
        fault("A0@12", 3, 3);
        fault("A0@12@", 3, 3);
        fault("A0@0-12?", 3, 5);
        // Of two the one that is first from the left.
        fault("a12;b12", 3, 1);
        fault("a12;a0", 3, 1);
        fault("a0;b12;a0", 3, 4);
        fault("a0;b12;c123", 3, 4);
        fault("a0;b123;c12", 2, 6);
        fault("A12@12-12", 3, 1);
        fault("A11@12-12", 3, 4);
    }

    private static void tooManyLines() {
        String full = Due.wholeTerrace(0);
        int place = full.length() + 1;
        Due.says("4 a 33rd LINE, at its letter (if that can stand there)");
        for (int sign = 0; sign < 256; sign++) {
            boolean letter = (HOUSES + THINGS).indexOf(sign) >= 0;
            fault(full + ";" + (char) sign, letter ? 4 : 1, place);
        }
        fault(full + ";", 1, place);
        fault(full + ";a99", 4, place);
        fault(full + ";a000", 4, place);
        fault(full + "?", 1, place - 1);
        // A fault ahead of it is first from the left.
        fault(full.substring(0, full.length() - 1) + "12;a0", 3, place - 2);
        fault("a" + full, 1, 1);
    }

    private static void twice() {
        Due.says("6 a HOUSE, a THING told twice, at its letter (behind 4)");
        for (int i = 0; i < 16; i++) {
            char house = HOUSES.charAt(i);
            char thing = THINGS.charAt(i);
            fault(house + "0;" + house + "0", 6, 3);
            fault(house + "1;" + thing + "0@0-0;" + house, 6, 10);
            fault(thing + "0@0-0;" + house + "1;" + thing, 6, 10);
            told(house + "0;" + thing + "0@0-0", 2);
        }
        // It is at the letter, ahead of all that stands behind it.
        fault("a0;a", 6, 3);
        fault("a0;a?", 6, 3);
        fault("a0;a12", 6, 3);
        fault("a0;a000", 6, 3);
        fault("A0@0-0;A", 6, 7);
        fault("a0;b0;b1;a1", 6, 6);
        fault("a0;b?;a0", 1, 4);
        // The 33rd LINE is a letter that was told, of whichever kind.
        fault(Due.wholeTerrace(0) + ";a0", 4, 160);
        fault(Due.wholeTerrace(0) + ";P0@0-0", 4, 160);
        // The 32nd is not behind 4.
        String full = Due.wholeTerrace(0);
        fault(full.substring(0, full.length() - 6) + "O0@0-0", 6, 153);
    }

    /** A street in which something has been going on, within few calls. */
    private static SharedWindow busy() {
        SharedWindow window = Due.street("b1;c7;B1@2-3;C8@0-11", "bc-b", "c1(w<5);x(w=9)");
        window.days(3);
        window.keep();
        window.days(1);
        return window;
    }

    private static void faultsStay() {
        Due.says("how many LINES; a FAULT (all stays); NONE: as above");
        String[] faulty = {"?", "a", "a000", "a12", Due.wholeTerrace(0) + ";a", "a0;a0", "a0;b0;C0@0-0;"};
        int[] due = {-1000, -1001, -2003, -3001, -4160, -6003, -1013};
        for (int i = 0; i < faulty.length; i++) {
            SharedWindow window = busy();
            SharedWindow other = busy();
            Due.is(faulty[i], Due.terrace(window, faulty[i]), due[i]);
            Due.is("empty then", window.count(7), 0);
            Due.same(faulty[i], Due.all(window), Due.all(other));
            Due.is("undo", window.undo() ? 1 : 0, other.undo() ? 1 : 0);
            Due.is("what was kept stays", window.count(9), other.count(9));
            Due.is("none behind a fault", Due.terrace(window, "p0"), 1);
            Due.is("it alone is told", window.count(1), 32768);
            Due.is("it alone is told", window.count(2), 0);
        }
    }

    private static void replaces() {
        Due.says("In place of all ahead: JOY, CRACKS 0, THE WINDOW nobody's, BRINGS nothing (THE DAY, X, THE ROTA stay: TURNS of a HOUSE that is not told are nobody's)");
        SharedWindow window = Due.street("a0;b6;p0;A0@0-11;B6@0-11", "ab-p7-p", "c9(1=1)");
        window.days(2);
        int x = window.count(8);
        Due.yes("there was joy, cracks, a window", window.count(9) > 0 && window.count(5) > 0 && window.count(3) == 15);
        Due.is("the same again", Due.terrace(window, "a0;b6;p0;A0@0-11;B6@0-11"), 5);
        int[] again = {2, 32771, 3, -2, 0, 0, 1, 0, x, 0, 0, 4};
        for (int what = 0; what < again.length; what++) {
            Due.is("count(" + what + ")", window.count(what), again[what]);
        }
        Due.is("rotaIs(11)", window.rotaIs(11), 15);
        window.days(1);
        Due.is("no thing, one house", Due.terrace(window, "b0"), 1);
        int[] less = {3, 2, 0, -2, 0, 0, 1, 0, window.count(8), 0, 0, 1};
        for (int what = 0; what < less.length; what++) {
            Due.is("count(" + what + ")", window.count(what), less[what]);
        }
        for (int turn = 0; turn < 12; turn++) {
            Due.is("rotaIs(" + turn + ")", window.rotaIs(turn), turn == 1 ? 1 : -2);
        }
        Due.is("houseIs(1, 1)", window.houseIs(1, 1), 0);
        Due.is("no house, one thing", Due.terrace(window, "P11@11-0"), 1);
        Due.is("count(1)", window.count(1), 0);
        Due.is("count(2)", window.count(2), 32768);
        Due.is("count(11)", window.count(11), 0);
        Due.is("no house has come back", Due.terrace(window, "a0;b6;p0"), 3);
        Due.is("count(11)", window.count(11), 0);
        Due.is("count(2)", window.count(2), 0);
    }
}
