/** Promises 11, 15, 16, 17 and 21: what THE ROTA makes of it. */
public final class RotaTest {
    private static final int[] ODD = {-1, 12, 99, 103, -2, Integer.MIN_VALUE, Integer.MAX_VALUE};

    public static void main(String[] args) {
        ways();
        seen();
        swapped();
        spread();
        readers();
        bestBreath();
        wrong();
        Due.end("RotaTest");
    }

    private static void way(String rota, int way, int round) {
        SharedWindow window = Due.street("a0;d0;h0;p0", rota);
        Due.is(rota + " way", window.rotaIs(100), way);
        Due.is(rota + " round", window.rotaIs(101), round);
    }

    private static void ways() {
        way("-", 0, 0);
        way("a", 0, 0);
        way("---p", 0, 0);
        way("ad", 3, 6);
        way("--a--d--", 3, 6);
        way("adhp", 15, 30);
        way("hap", 7 + 15, 7 + 15 + 8);
        way("6(ap)", 15 * 11, 15 * 12);
        way("aaahhh", 7, 14);
        way("ada", 6, 6);
    }

    private static void seen() {
        SharedWindow window = Due.street("a0;b6;A0@0-0;B0@1-1;C6@1-1;D6@2-2;P11@5-5", "ab--ba");
        Due.is("rotaIs(102)", window.rotaIs(102), 1 + 4 + 32768);
        window.turn(2, 1);
        Due.is("rotaIs(102)", window.rotaIs(102), 1 + 4 + 8 + 32768);
        window.turn(0, -1);
        Due.is("rotaIs(102)", window.rotaIs(102), 4 + 8 + 32768);
        window.turn(0, 0);
        Due.is("rotaIs(0)", window.rotaIs(0), 0);
        Due.is("rotaIs(1)", window.rotaIs(1), 1);
        Due.is("rotaIs(3)", window.rotaIs(3), -2);
        Due.is("rotaIs(11)", window.rotaIs(11), -2);
    }

    private static void swapped() {
        SharedWindow window = Due.street("a0;d0;h0;p0", "ad-hp");
        Due.is("ifSwapped(0, 1)", window.ifSwapped(0, 1), 3 + 7 + 8);
        Due.is("ifSwapped(1, 0)", window.ifSwapped(1, 0), 3 + 7 + 8);
        Due.is("ifSwapped(0, 2)", window.ifSwapped(0, 2), 3 + 7 + 8);
        Due.is("ifSwapped(0, 11)", window.ifSwapped(0, 11), 4 + 8 + 15);
        Due.is("ifSwapped(4, 4)", window.ifSwapped(4, 4), 15);
        Due.is("ifSwapped(10, 11)", window.ifSwapped(10, 11), 15);
        Due.is("rotaIs(100)", window.rotaIs(100), 15);
        Due.is("rotaIs(0)", window.rotaIs(0), 0);
    }

    private static void spread() {
        Due.is("none", new SharedWindow().spread(), 0);
        Due.is("none has any", Due.street("a0;b0", "").spread(), 0);
        Due.is("one has none", Due.street("a0;b0;c0", "5a3b").spread(), 5);
        Due.is("each has one", Due.street("a0;b0;c0", "5a3bc").spread(), 4);
        Due.is("one house", Due.street("a0", "5a").spread(), 0);
        Due.is("all turns", Due.street("a0;p1", "9aaaa").spread(), 12);
        Due.is("like ones", Due.street("a0;p1", "6(ap)").spread(), 0);
    }

    private static void readers() {
        // a sees all day, b sees nothing, c sees in turn 5 only.
        SharedWindow window = Due.street("a0;b6;c3;A0@0-11;B3@5-5", "aa--acabac-a");
        Due.is("readers(0, 0)", window.readers(0, 0), 0);
        Due.is("readers(0, 1)", window.readers(0, 1), 1);
        Due.is("nobody reads, it stays", window.readers(1, 2), 0);
        Due.is("readers(1, 3)", window.readers(1, 3), 1);
        Due.is("c sees and does not wipe", window.readers(4, 2), 1 + 4);
        Due.is("b wipes", window.readers(4, 12), 1 + 2 + 4);
        Due.is("c wipes in turn 9", window.readers(7, 12), 1 + 4);
        Due.is("round", window.readers(9, 12), 1 + 2 + 4);
        Due.is("round", window.readers(11, 1), 1);
        Due.is("by a nobody's turn", window.readers(10, 1), 1);
        Due.is("wiped at once", window.readers(6, 12), 2);
        window = Due.street("a0;A0@0-11", "---a");
        Due.is("its own house is the last", window.readers(3, 12), 1);
        Due.is("its own house is not yet", window.readers(3, 11), 0);
        Due.is("no houses", new SharedWindow().readers(11, 12), 0);
    }

    private static void bestBreath() {
        SharedWindow window = Due.street("a0;b6;c3;d1;A0@0-11;B3@5-5", "aa--acabac-d");
        // From 0 to 7 b, c read; from 8 on c in 9; from 9 c's own: d, a, c, b.
        Due.is("bestBreath(0, 0)", window.bestBreath(0, 0), 0);
        Due.is("bestBreath(0, 1)", window.bestBreath(0, 1), 2);
        Due.is("bestBreath(1, 0)", window.bestBreath(1, 0), 7);
        Due.is("bestBreath(1, 1)", window.bestBreath(1, 1), 2);
        Due.is("bestBreath(2, 0)", window.bestBreath(2, 0), 9);
        Due.is("bestBreath(2, 1)", window.bestBreath(2, 1), 3);
        Due.is("bestBreath(3, 0)", window.bestBreath(3, 0), 11);
        Due.is("bestBreath(3, 1)", window.bestBreath(3, 1), 3);
        window = Due.street("a0;b6;A0@0-11", "-aab");
        Due.is("the lowest of like ones", window.bestBreath(0, 0), 1);
        Due.is("bestBreath(0, 1)", window.bestBreath(0, 1), 1);
        window = Due.street("a0;b6;A0@0-11", "--a");
        Due.is("no others", window.bestBreath(0, 0), 2);
        Due.is("no others", window.bestBreath(0, 1), 0);
        Due.is("no turn", window.bestBreath(1, 0), -2);
        Due.is("no turn", window.bestBreath(1, 1), 0);
    }

    private static void wrong() {
        SharedWindow window = Due.street("a0;b6;A0@0-11", "aba");
        for (int odd : ODD) {
            Due.is("rotaIs(" + odd + ")", window.rotaIs(odd), -1);
            Due.is("ifSwapped(0, " + odd + ")", window.ifSwapped(0, odd), -1);
            Due.is("ifSwapped(" + odd + ", 0)", window.ifSwapped(odd, 0), -1);
            Due.is("readers(" + odd + ", 3)", window.readers(odd, 3), -1);
            Due.is("bestBreath(" + odd + ", 0)", window.bestBreath(odd, 0), -1);
            Due.is("bestBreath(0, " + odd + ")", window.bestBreath(0, odd), -1);
        }
        for (int odd : new int[] {-1, 13, Integer.MIN_VALUE, Integer.MAX_VALUE}) {
            Due.is("readers(0, " + odd + ")", window.readers(0, odd), -1);
        }
        Due.is("bestBreath(2, 0)", window.bestBreath(2, 0), -1);
        Due.is("bestBreath(0, 2)", window.bestBreath(0, 2), -1);
    }
}
