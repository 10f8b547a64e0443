/** Promises 9, 10, 12, 13, 14, 18 and 20: who sees what when. */
public final class SightTest {
    private static final int[] ODD = {-1, 12, 16, 32, 65536, -2, Integer.MIN_VALUE, Integer.MAX_VALUE};

    public static void main(String[] args) {
        sides();
        times();
        houseIs();
        next();
        light();
        seers();
        clearest();
        whoHad();
        wrong();
        Due.end("SightTest");
    }

    private static void sides() {
        for (int facing = 0; facing < 12; facing++) {
            for (int side = 0; side < 12; side++) {
                SharedWindow window = Due.street("c" + facing + ";D" + side + "@4-4", "");
                boolean beside = side == facing || side == (facing + 1) % 12 || facing == (side + 1) % 12;
                Due.is("facing " + facing + " side " + side, window.sees(2, 4), beside ? 8 : 0);
                Due.is("in another turn", window.sees(2, 5), 0);
                Due.is("houseIs(2, 4)", window.houseIs(2, 4), beside ? 8 : 0);
            }
        }
    }

    private static void times() {
        for (int from = 0; from < 12; from++) {
            for (int until = 0; until < 12; until++) {
                SharedWindow window = Due.street("a0;A0@" + from + "-" + until, "");
                int seen = 0;
                for (int turn = from; turn != until; turn = (turn + 1) % 12) {
                    seen |= 1 << turn;
                }
                seen |= 1 << until;
                for (int turn = 0; turn < 12; turn++) {
                    Due.is(from + "-" + until + " in " + turn, window.sees(0, turn), seen >> turn & 1);
                }
                Due.is("light(0, 0)", window.light(0, 0), Integer.bitCount(seen));
                Due.is("light(0, 1)", window.light(0, 1), Integer.bitCount(seen));
            }
        }
    }

    private static void houseIs() {
        SharedWindow window = Due.street("a11;b5;c6;A0@2-3;B10@3-4;P11@0-0;C1@0-11", "ab3-a2(-b)a");
        Due.is("houseIs(0, 0)", window.houseIs(0, 0), 11);
        Due.is("houseIs(0, 2)", window.houseIs(0, 2), 3);
        Due.is("houseIs(0, 4)", window.houseIs(0, 4), 1 + 2 + 32768);
        Due.is("houseIs(1, 4)", window.houseIs(1, 4), 0);
        // a has 0, 5 and 10: dark from 1 to 4, from 6 to 9, in 11.
        Due.is("houseIs(0, 3)", window.houseIs(0, 3), 4);
        // b has 1, 7 and 9: dark from 10 round to 0, from 2 to 6, in 8.
        Due.is("houseIs(1, 3)", window.houseIs(1, 3), 5);
        Due.is("houseIs(2, 3)", window.houseIs(2, 3), 12);
        window.turn(3, 1);
        Due.is("dark round by 11 to 0", window.houseIs(1, 3), 3);
        window = Due.street("a11", "9aaaa");
        Due.is("never dark", window.houseIs(0, 3), 0);
        window.turn(0, -1);
        Due.is("dark once", window.houseIs(0, 3), 1);
        window.turn(11, -1);
        Due.is("dark twice", window.houseIs(0, 3), 2);
        Due.is("houseIs(0, 1)", window.houseIs(0, 1), 0);
    }

    private static void next() {
        SharedWindow window = Due.street("a0;b6;A0@3-8;B0@0-11;C6@0-1", "3a-aab3a");
        Due.is("in it", window.next(0, 1, 0), 0);
        Due.is("next(0, 1, 3)", window.next(0, 1, 3), 1);
        Due.is("next(0, 0, 0)", window.next(0, 0, 0), 4);
        Due.is("next(0, 0, 6)", window.next(0, 0, 6), 1);
        Due.is("next(0, 0, 9)", window.next(0, 0, 9), 7);
        Due.is("next(0, 1, 10)", window.next(0, 1, 10), 2);
        Due.is("next(0, 0, 5)", window.next(0, 0, 5), 0);
        Due.is("next(0, 2, 0)", window.next(0, 2, 0), -2);
        Due.is("next(1, 2, 0)", window.next(1, 2, 0), -2);
        window.turn(1, 1);
        Due.is("next(1, 2, 2)", window.next(1, 2, 2), 11);
        Due.is("next(1, 2, 1)", window.next(1, 2, 1), 0);
    }

    private static void light() {
        SharedWindow window = Due.street("a0;b6;c3;A0@11-1;B0@4-8;C1@7-9;D3@0-11", "3b");
        Due.is("light(0, 0)", window.light(0, 0), 3 + 6);
        Due.is("light(0, 1)", window.light(0, 1), 6);
        Due.is("light(1, 0)", window.light(1, 0), 0);
        Due.is("light(1, 1)", window.light(1, 1), 0);
        Due.is("light(2, 0)", window.light(2, 0), 12);
        Due.is("light(2, 1)", window.light(2, 1), 12);
        window = Due.street("a0;A0@9-4;B0@6-7", "");
        Due.is("round", window.light(0, 1), 8);
        Due.is("round", window.light(0, 0), 10);
    }

    private static void seers() {
        SharedWindow window = Due.street("a0;b11;c1;d2;e10;p0;A0@5-5;B6@0-11", "");
        Due.is("seers(0)", window.seers(0), 1 + 2 + 4 + 32768);
        Due.is("seers(1)", window.seers(1), 0);
        Due.is("seers(2)", window.seers(2), -1);
    }

    private static void clearest() {
        SharedWindow window = Due.street("a0;b1;A0@3-5;B1@5-6;C6@0-11;D2@8-8", "");
        Due.is("clearest(0)", window.clearest(0), 5);
        Due.is("clearest(1)", window.clearest(1), 4);
        window = Due.street("a0;b1;A0@3-4;B1@8-9", "");
        Due.is("the lowest", window.clearest(0), 3);
        Due.is("clearest(1)", window.clearest(1), 2);
        window = Due.street("a0;A0@5-7", "");
        Due.is("one two", window.clearest(0), 5);
        Due.is("one two", window.clearest(1), 1);
        window = Due.street("a0;b0;A0@0-7;B0@0-0", "");
        Due.is("the first turn", window.clearest(0), 0);
        Due.is("the first turn", window.clearest(1), 4);
        window = Due.street("a0;A5@3-4", "");
        Due.is("none sees any", window.clearest(0), 0);
        Due.is("none sees any", window.clearest(1), 0);
    }

    private static void whoHad() {
        SharedWindow window = Due.street("a0;b1;c2;p6;A0@3-5;B1@5-6;C2@5-5", "");
        Due.is("whoHad(5, 3)", window.whoHad(5, 3), 1);
        Due.is("whoHad(5, 7)", window.whoHad(5, 7), 2);
        Due.is("whoHad(5, 6)", window.whoHad(5, 6), 4);
        Due.is("whoHad(5, 0)", window.whoHad(5, 0), 32768);
        Due.is("whoHad(3, 1)", window.whoHad(3, 1), 3);
        Due.is("whoHad(3, 0)", window.whoHad(3, 0), 4 + 32768);
        Due.is("whoHad(0, 0)", window.whoHad(0, 0), 7 + 32768);
        Due.is("whoHad(5, 8)", window.whoHad(5, 8), 0);
        Due.is("whoHad(5, 65535)", window.whoHad(5, 65535), 0);
    }

    private static void wrong() {
        SharedWindow window = Due.street("a0;b1;A0@3-5", "ab");
        for (int odd : ODD) {
            Due.is("sees(" + odd + ", 0)", window.sees(odd, 0), -1);
            Due.is("sees(0, " + odd + ")", window.sees(0, odd), -1);
            Due.is("houseIs(" + odd + ", 0)", window.houseIs(odd, 0), -1);
            Due.is("houseIs(0, " + odd + ")", window.houseIs(0, odd), -1);
            Due.is("next(" + odd + ", 0, 0)", window.next(odd, 0, 0), -1);
            Due.is("next(0, " + odd + ", 0)", window.next(0, odd, 0), -1);
            Due.is("next(0, 0, " + odd + ")", window.next(0, 0, odd), -1);
            Due.is("light(" + odd + ", 0)", window.light(odd, 0), -1);
            Due.is("light(0, " + odd + ")", window.light(0, odd), -1);
            Due.is("seers(" + odd + ")", window.seers(odd), -1);
            Due.is("clearest(" + odd + ")", window.clearest(odd), -1);
            Due.is("whoHad(" + odd + ", 1)", window.whoHad(odd, 1), -1);
        }
        for (int odd : new int[] {-1, 65536, Integer.MIN_VALUE, Integer.MAX_VALUE}) {
            Due.is("whoHad(0, " + odd + ")", window.whoHad(0, odd), -1);
        }
        Due.is("not told", window.sees(2, 0), -1);
        Due.is("not told", window.houseIs(2, 0), -1);
        Due.is("not told", window.next(2, 0, 0), -1);
        Due.is("not told", window.next(0, 1, 0), -1);
        Due.is("not told", window.light(2, 0), -1);
        Due.is("houseIs(0, 5)", window.houseIs(0, 5), -1);
        Due.is("light(0, 2)", window.light(0, 2), -1);
        Due.is("clearest(2)", window.clearest(2), -1);
    }
}
