/** Promise 4 and 7: what THE LAW makes of a DAY. */
public final class LawTest {
    public static void main(String[] args) {
        sums();
        tests();
        bounds();
        firstOfItsKind();
        lettersWhenCarried();
        lettersOfJoy();
        leaving();
        replacing();
        Due.end("LawTest");
    }

    /** The E of a j, shown as the JOY of a house that sees nothing. */
    private static void worth(String sum, int due) {
        SharedWindow window = Due.street("a0", "a", "j" + sum + "(1=1)");
        Due.is("days(1)", window.days(1), 0);
        Due.is(sum, window.houseIs(0, 1), due);
    }

    private static void sums() {
        worth("7", 7);
        worth("00042", 42);
        worth("1+2*3", 7);
        worth("[1+2]*3", 9);
        worth("10-3-2", 5);
        worth("10-[3-2]", 9);
        worth("20/3/2", 3);
        worth("7%4*2", 6);
        worth("2*7%4", 2);
        worth("50-2*3+4", 48);
        worth("[0-7]/2+50", 47);
        worth("[0-7]%4+50", 47);
        worth("7/[0-2]+50", 47);
        worth("7%[0-4]+50", 53);
        worth("99999*99999%97", 99999 * 99999 % 97);
        worth("99999*99999*3%89+89", Math.min(99, Math.max(0, 99999 * 99999 * 3 % 89 + 89)));
        worth("[32768*65536]/[0-1]/[32768*32768]+50", 48);
        worth("[32768*65536]%[0-1]+5", 5);
        worth("1/0", 0);
        worth("1%0", 0);
        worth("5+1/0", 0);
        worth("0*[1/0]+5", 0);
        worth("5/[3-3]+7", 0);
    }

    private static void test(String text, boolean holds) {
        SharedWindow window = Due.street("a0", "a", "j7(" + text + ");j5(1=1)");
        window.days(1);
        Due.is(text, window.houseIs(0, 1), holds ? 7 : 5);
        SharedWindow other = Due.street("a0;A1@0-11", "a", "x(" + text + ")");
        other.days(1);
        Due.is("x(" + text + ")", other.count(3), holds ? -2 : 0);
    }

    private static void tests() {
        test("1=1", true);
        test("1=2", false);
        test("1<2", true);
        test("2<2", false);
        test("3>2", true);
        test("2>2", false);
        test("0-1<0", true);
        test("!1=1", false);
        test("!!1=1", true);
        test("!1=2", true);
        test("1=1|1/0=1", true);
        test("1/0=1|1=1", false);
        test("1=2&1/0=1|1=1", true);
        test("1=1&1/0=1|1=1", false);
        test("1=2|1/0=0", false);
        test("!1/0=1", false);
        test("!!1/0=1", false);
        test("!(1/0=1)", false);
        test("(1%0=0)|1=1", false);
        test("!(1=1|1/0=1)", false);
        test("!(1=2&1/0=1)", true);
        test("1=2|2=2&3=3", true);
        test("(1=2|2=2)&3=4", false);
        test("1=1|2=2&3=4", true);
        test("1=2&2=2|3=3", true);
        test("1=2&(2=2|3=3)", false);
        test("!1=2&!2=3", true);
        test("!1=1|!2=3", true);
        test("1=2|2=3|3=4|4=4", true);
        test("1=1&2=2&3=3&4=5", false);
        test("1=1&2=3&3=3|5=5&6=6", true);
    }

    private static void bounds() {
        worth("99", 99);
        worth("100", 99);
        worth("99999", 99);
        worth("0-1", 0);
        int[][] due = {{0, 0}, {9, 9}, {10, 9}, {99999, 9}};
        for (int[] each : due) {
            SharedWindow window = Due.street("a0", "a", "c" + each[0] + "(1=1)");
            Due.is("c" + each[0], window.days(1), each[1]);
        }
        SharedWindow window = Due.street("a0", "a", "c0-3(1=1)");
        Due.is("c0-3", window.days(1), 0);
        window = Due.street("a0", "a", "c3/0(1=1);c5(1=1)");
        Due.is("c3/0", window.days(1), 0);
    }

    private static void firstOfItsKind() {
        SharedWindow window = Due.street("a0;b0", "ab", "j1(h=1);c2(h=1);j3(1=1);c4(1=1);j50(1=1);c9(1=1)");
        Due.is("days(1)", window.days(1), 6);
        Due.is("houseIs(0, 1)", window.houseIs(0, 1), 3);
        Due.is("houseIs(1, 1)", window.houseIs(1, 1), 1);
        window = Due.street("a0;b0", "ab", "c2(h=5)");
        Due.is("none holds", window.days(1), 0);
    }

    private static void carried(String terrace, String rota, String sum, int due) {
        SharedWindow window = Due.street(terrace, rota, "c" + sum + "(1=1)");
        Due.is("c" + sum + " " + rota, window.days(1), due);
    }

    private static void lettersWhenCarried() {
        carried("d0;i0", "d", "h", 3);
        carried("d0;i0", "di", "h", 3 + 8);
        carried("d0;i0", "d", "g-10", 6);
        carried("d0;i0", "di", "[g+1]%17", 0 + 4);
        carried("d0", "-----d", "s", 5);
        carried("d0;i0", "d----i", "s", 0 + 5);
        carried("d0;i0", "di", "d", 0 + 5);
        carried("d0;i0", "did", "d", 0 + 5 + 5);
        carried("d0;A0@0-0;B11@0-11;C1@0-3;D2@0-11", "d", "n", 3);
        carried("d0;i6;A0@0-0;B11@0-11", "di", "b", 0 + 2);
        carried("d0;i6;A0@0-0;B11@0-11", "did", "b+1", 1 + 3 + 3);
        carried("d0;i0", "did", "k+1", 1 + 2 + 4);
        carried("d0;i0", "didi", "t+1", 4);
        SharedWindow window = Due.street("d0;i0", "di", "ct(1=1)");
        Due.is("days(4)", window.days(4), 0 + 0 + 1 + 1 + 2 + 2 + 3 + 3);
        // The draws from 1 on: 39022, 61087, 20196, 45005, of which a digit each is the last.
        carried("d0;i0", "didi", "w", 2 + 7 + 6 + 5);
        window = Due.street("d0;i0", "di", "ck(t>98)");
        Due.law(window, "c9(1=1)");
        window.days(6);
        Due.is("count(5)", window.count(5), 108);
        Due.law(window, "ck(1=1)");
        Due.is("k is modulo 100", window.days(1), 8 + 9);
        window = Due.street("d0;i0", "di", "ct/10(1=1)");
        for (int i = 0; i < 3; i++) {
            window.days(35);
        }
        Due.law(window, "ct(1=1)");
        Due.is("t is modulo 100", window.days(1), 5 + 5);
    }

    private static void joy(String terrace, String rota, String sum, int due) {
        SharedWindow window = Due.street(terrace, rota, "j" + sum + "(1=1);c7(1=1)");
        window.days(1);
        Due.is("j" + sum + " " + rota, window.count(9), due);
    }

    private static void lettersOfJoy() {
        joy("d0;i0", "di", "h", 3 + 8);
        joy("d0;i0", "di", "g", 3 + 8);
        joy("d0;i0", "-d--i", "s", 1 + 4);
        joy("d0;i0", "di", "d", 0);
        joy("d0;A0@0-0;B11@0-11", "dd", "n", 2 + 1);
        joy("d0;i6;A0@0-0;B11@0-11", "di", "b", 0 + 2);
        joy("d0;i0", "di", "k", 7 + 14);
        joy("d0;i0", "didi", "w", 2 + 7 + 6 + 5);
        joy("d0;i0", "di", "t+1", 2);
    }

    private static void replacing() {
        SharedWindow window = Due.street("a0;b0", "ab");
        for (int i = 1; i <= 6; i++) {
            Due.is("law " + i, Due.law(window, "c" + i + "(1=1);j" + i + "(1=1)"), 2);
            Due.is("a fault", Due.law(window, "c9(1=1);j9(1=1);c9(1=1"), Due.fault(1, 22));
            Due.is("count(6)", window.count(6), 2);
            Due.is("tried(1, 0)", window.tried(1, 0), 2 * i);
            Due.is("tried(1, 3)", window.tried(1, 3), 2 * i);
        }
    }

    private static void leaving() {
        // Left in house d in the second turn: that house has joy of what it sees then.
        SharedWindow window = Due.street("d0;i6;A0@0-11;B6@0-11;C6@0-11", "di", "x(h=8);c4(1=1)");
        Due.is("days(1)", window.days(1), 4);
        Due.is("houseIs(3, 1)", window.houseIs(3, 1), 1 + 2);
        Due.is("houseIs(8, 1)", window.houseIs(8, 1), 0);
        Due.is("count(3)", window.count(3), 3);
        // By the house in which it is, not by the one whose turn it is.
        window = Due.street("d0;i6;A0@0-11;B6@0-11;C6@0-11", "di", "x(h=8);jh*10+n(1=1)");
        window.days(1);
        Due.is("houseIs(3, 1)", window.houseIs(3, 1), 31 + 31);
        // Nobody's, it stays nobody's; the draws go on.
        window = Due.street("d0;A0@0-11", "ddd", "x(g=16)");
        window.days(1);
        Due.is("count(3)", window.count(3), -2);
        Due.is("count(9)", window.count(9), 0);
        Due.is("count(4)", window.count(4), 0);
        Due.is("count(8)", window.count(8), 20196);
        // Any x will do.
        window = Due.street("d0;i0", "di", "x(1=2);x(1/0=1);x(h=8);x(1=3)");
        window.days(1);
        Due.is("count(3)", window.count(3), 3);
    }
}
