/** THE LAW as it is reckoned: each sentence that names a bound. */
public final class LawBoundsTest {
    public static void main(String[] args) {
        boundsOfWorths();
        noneHolds();
        leaving();
        houseAndWindow();
        turnsAndWays();
        things();
        cracksAndDays();
        draws();
        reckoning();
        comparisons();
        refusals();
        asMuchAsMatters();
        Due.end("LawBoundsTest");
    }

    /** Does a C hold when THE WINDOW is carried to the first HOUSE of the ROTA? */
    private static void holds(SharedWindow window, String test, boolean due) {
        Due.yes("a law", Due.law(window, "c1(" + test + ");c2(1=1)") == 2);
        Due.is(test, window.tried(1, 0), due ? 1 : 2);
    }

    /** The E of a j in a street where one house has one turn and there is nothing to be seen. */
    private static void worth(String sum, int due) {
        SharedWindow window = Due.street("a0", "a", "j" + sum + "(1=1)");
        Due.is(sum, window.tried(1, 3), due);
    }

    private static void test(String text, boolean due) {
        holds(Due.street("a0", "a"), text, due);
    }

    private static void boundsOfWorths() {
        Due.says("c how many CRACKS there are more when it is carried (0 to 9; none: 0)");
        String[] sums = {"0-99999", "0-1", "0", "1", "8", "9", "10", "99999", "99999*99999", "32768*65536"};
        int[] cracks = {0, 0, 0, 1, 8, 9, 9, 9, 9, 0};
        for (int i = 0; i < sums.length; i++) {
            SharedWindow window = Due.street("a0", "a", "c" + sums[i] + "(1=1)");
            Due.is("c" + sums[i], window.days(1), cracks[i]);
            Due.is("count(5)", window.count(5), cracks[i]);
        }
        Due.says("j how much JOY a HOUSE has of what it SEES and what THE WINDOW BRINGS (0 to 99; none:");
        String[] joys = {"0-99999", "0-1", "0", "1", "98", "99", "100", "99999", "32768*65536", "32768*65536-1"};
        int[] due = {0, 0, 0, 1, 98, 99, 99, 99, 0, 99};
        for (int i = 0; i < joys.length; i++) {
            worth(joys[i], due[i]);
        }
        Due.says("(beyond its bounds the bound)");
        worth("0-1", 0);
        worth("100", 99);
    }

    private static void noneHolds() {
        Due.says("none: as many as the THINGS it SEES then and those THE WINDOW BRINGS, added up; one that is both twice)");
        SharedWindow window = Due.street(Due.wholeTerrace(0), "a");
        Due.is("it sees sixteen, none is brought", window.tried(1, 3), 16);
        window.days(1);
        Due.is("it sees sixteen, and sixteen are brought", window.tried(1, 3), 16 + 32);
        Due.rota(window, "-a");
        Due.is("it sees none, and sixteen are brought", window.tried(1, 3), 16 + 16);
        Due.law(window, "j5(1=2)");
        Due.is("a j that does not hold", window.tried(1, 3), 16 + 16);
        Due.law(window, "j5(1=1)");
        Due.is("a j that holds", window.tried(1, 3), 16 + 5);
        window = Due.street("a0", "a");
        Due.is("it sees none, none is brought", window.tried(1, 3), 0);
        Due.is("no law, no cracks", window.tried(100, 0), 0);

        Due.says("of the first RULE of c, j whose C holds the E");
        window = Due.street("a0", "a", "c1(1=2);j1(1=2);c0(1=1);j0(1=1);c3(1=1);j3(1=1)");
        Due.is("the second c", window.tried(1, 0), 0);
        Due.is("the second j", window.tried(1, 3), 0);
        window = Due.street("a0", "a", "x(1=2);".repeat(14) + "j7(1=1);c7(1=1)");
        Due.is("the sixteenth of all", window.tried(1, 0), 7);
        Due.is("the fifteenth of all", window.tried(1, 3), 7);
    }

    private static void leaving() {
        Due.says("x it is left where it was for a TURN (any will do; without an x in THE LAW it is not)");
        SharedWindow window = Due.street("a0;p0", "ap", "x(1=2);x(1=3);x(h=15)");
        Due.is("the last one", window.tried(1, 1), 0);
        window = Due.street("a0;p0", "ap", "x(h=15);x(1=3);x(1=3)");
        Due.is("the first one", window.tried(1, 1), 0);
        window = Due.street("a0;p0", "ap", "x(1=2)");
        Due.is("none of them", window.tried(1, 1), 15);
        window = Due.street("a0;p0", "ap", "c1(1=1);j1(1=1)");
        Due.is("without an x", window.tried(1, 1), 15);
        Due.is("without a law", Due.street("a0;p0", "ap").tried(1, 1), 15);
        window = Due.street("a0;p0", "ap", "c9(1=1);x(h=15)");
        Due.is("not carried, no cracks", window.tried(1, 0), 9);
        window = Due.street("a0", "aaa", "c9(1=1)");
        Due.is("it is there already", window.tried(2, 0), 9);

        Due.says("(is it still nobody's: nothing more)");
        window = Due.street("a0;A0@0-11", "aa", "x(1=1);c9(1=1);j9(1=1)");
        Due.is("days(1)", window.days(1), 0);
        Due.is("nobody's", window.count(3), -2);
        Due.is("no joy", window.count(9), 0);
        Due.is("nothing brought", window.count(4), 0);
        Due.is("the day", window.count(0), 1);
        Due.is("two draws", window.count(8), 61087);

        Due.says("(SAW it nothing: what it brought stays)");
        window = Due.street("a0;b6;A0@0-0", "ab9-b");
        window.days(1);
        Due.is("what a saw", window.count(4), 1);
        window = Due.street("b6;A0@0-0", "b");
        window.days(1);
        Due.is("nobody saw anything", window.count(4), 0);
    }

    private static void houseAndWindow() {
        Due.says("h the HOUSE whose TURN it is, g the HOUSE in which THE WINDOW is (nobody's: 16)");
        holds(Due.street("a0;p0", "a"), "h=0", true);
        holds(Due.street("a0;p0", "p"), "h=15", true);
        holds(Due.street("a0;p0", "a"), "g=16", true);
        for (int at = 0; at < 16; at += 15) {
            SharedWindow window = Due.street("a0;p0;h0", at == 0 ? "a" : "p");
            window.days(1);
            Due.rota(window, "h");
            holds(window, "g=" + at + "&h=7", true);
        }
        Due.says("by that HOUSE as h and g");
        SharedWindow window = Due.street("a0;p0", "ap", "x(h=15);j50+h+g(1=1)");
        Due.is("left in a", window.tried(1, 3), 50 + 50);
        window = Due.street("a0;p0", "pa", "x(h=0);j50+h+g(1=1)");
        Due.is("left in p", window.tried(1, 3), 80 + 80);
    }

    private static void turnsAndWays() {
        Due.says("s the TURN");
        holds(Due.street("a0", "a"), "s=0", true);
        holds(Due.street("a0", "9---a"), "s=11", true);
        Due.is("at its joy", Due.street("a0", "9---a", "js(1=1)").tried(1, 3), 11);

        Due.says("d how far apart h and g are (nobody's: 0)");
        holds(Due.street("a0;p0", "p"), "d=0", true);
        for (String way : new String[] {"ap", "pa"}) {
            SharedWindow window = Due.street("a0;p0", way.substring(0, 1));
            window.days(1);
            Due.rota(window, way.substring(1));
            holds(window, "d=15", true);
        }
        for (String way : new String[] {"ho", "oh"}) {
            SharedWindow window = Due.street("h0;o0", way.substring(0, 1));
            window.days(1);
            Due.rota(window, way.substring(1));
            holds(window, "d=7", true);
        }
        SharedWindow window = Due.street("a0;p0", "ap", "jd(1=1);x(h=15)");
        Due.is("none at its joy", window.tried(1, 3), 0);
    }

    private static void things() {
        Due.says("n how many THINGS h SEES then, b how many THE WINDOW BRINGS");
        holds(Due.street(Due.wholeTerrace(0), "a"), "n=16", true);
        holds(Due.street(Due.wholeTerrace(1), "a"), "n=0", true);
        holds(Due.street(Due.wholeTerrace(0), "a"), "b=0", true);
        SharedWindow window = Due.street(Due.wholeTerrace(0), "a");
        window.days(1);
        Due.rota(window, "-b");
        holds(window, "b=16&n=0", true);
        Due.says("what it SEES in this TURN as n, CRACKS as they are then");
        window = Due.street("a0;p6;A0@0-11", "ap", "x(h=15);j10+n(1=1)");
        Due.is("a has it, in p's turn", window.tried(1, 3), 11 + 11);
        window = Due.street("a0", "a", "c7(1=1);jk(1=1)");
        Due.is("with those of the carrying", window.tried(1, 3), 7);
    }

    /** A street with so many CRACKS, THE WINDOW in b, and the ROTA a. */
    private static SharedWindow cracked(int cracks) {
        SharedWindow window = Due.street("a0;b0", "ab");
        Due.law(window, "c9(1=1)");
        Due.rota(window, "6(ab)");
        while (window.count(5) + 108 <= cracks) {
            window.days(Math.min(100, (cracks - window.count(5)) / 108));
        }
        while (window.count(5) < cracks) {
            Due.rota(window, window.count(3) == 1 ? "a" : "b");
            Due.law(window, "c" + Math.min(9, cracks - window.count(5)) + "(1=1)");
            window.days(1);
        }
        Due.law(window, "c0(1=1)");
        Due.rota(window, "b");
        window.days(1);
        Due.rota(window, "a");
        Due.is("cracks", window.count(5), cracks);
        return window;
    }

    private static void cracksAndDays() {
        Due.says("k CRACKS modulo 100");
        int[] cracks = {0, 1, 99, 100, 101, 199, 200, 9998, 9999};
        for (int each : cracks) {
            SharedWindow window = cracked(each);
            Due.law(window, "x(k=" + each % 100 + ")");
            Due.is(each + " left by k", window.tried(1, 1), 1);
            Due.law(window, "x(k>" + each % 100 + ")");
            Due.is(each + " not left by k", window.tried(1, 1), 0);
        }
        Due.says("t THE DAY modulo 100");
        SharedWindow window = Due.street("a0", "a", "jt(1=1)");
        holds(Due.street("a0", "a"), "t=0", true);
        Due.is("days 0 to 98", window.tried(99, 3), 98 * 99 / 2);
        Due.is("day 99 is the last of a hundred", window.tried(100, 3), 99 * 100 / 2);
        window.days(100);
        Due.is("day 100 is as day 0", window.tried(1, 3), 4950);
        Due.is("day 101 is as day 1", window.tried(2, 3), 4951);
    }

    private static void draws() {
        Due.says("DRAWS: X = (25173 X + 13849) modulo 65536 (X is THE SEED at first, 1): X modulo 10");
        SharedWindow window = Due.street("a0", "a");
        Due.is("the seed", window.count(8), 1);
        window.days(1);
        Due.is("the first draw", window.count(8), 39022);
        for (int seed : new int[] {0, 1, 2, 9, 10, 32767, 32768, 65534, 65535}) {
            long x = seed;
            for (int draw = 1; draw <= 3; draw++) {
                x = (25173L * x + 13849) % 65536;
                SharedWindow other = Due.street("a0", "a".repeat(draw), "j10+w(s=" + (draw - 1) + ");j0(1=1)");
                Due.yes("seed(" + seed + ")", other.seed(seed));
                Due.is("draw " + draw + " from " + seed, other.tried(1, 3), 10 + x % 10);
                other.days(1);
                Due.is("count(8)", other.count(8), x);
            }
        }
        Due.says("each TURN of THE ROTA that is a HOUSE's, by numbers, with a DRAW");
        window = Due.street("a0", "-");
        window.days(100);
        Due.is("no turn, no draw", window.count(8), 1);
        Due.is("the day goes by", window.count(0), 100);
        window = Due.street("a0", "9---a");
        window.days(1);
        Due.is("one turn, one draw", window.count(8), 39022);
        window = Due.street("a0", "9aaaa");
        window.days(1);
        long x = 1;
        for (int i = 0; i < 12; i++) {
            x = (25173L * x + 13849) % 65536;
        }
        Due.is("twelve turns, twelve draws", window.count(8), x);
        Due.says("(x, c asked with it, ahead of carrying)");
        // The first draw from 1 is 2, the second 7.
        window = Due.street("a0;b0", "ab", "x(w=7);cw(1=1)");
        Due.is("c by the first draw", window.tried(1, 0), 2);
        Due.is("x by the second", window.tried(1, 1), 0);
        Due.says("(asked with the same DRAW");
        window = Due.street("a0;b0", "ab", "jw(1=1)");
        Due.is("j by both", window.tried(1, 3), 2 + 7);
    }

    private static void reckoning() {
        Due.says("All is reckoned with 32 bits, as the machine does");
        test("46340*46340>0", true);
        test("46341*46341<0", true);
        test("32767*65536+65535>0", true);
        test("32767*65536+65535+1<0", true);
        test("0-32768*65536<0", true);
        test("0-32768*65536-1>0", true);
        test("32768*65536/[0-1]=32768*65536", true);
        test("32768*65536%[0-1]=0", true);
        test("65536*65536=0", true);
        test("[0-7]/2=0-3", true);
        test("[0-7]%2=0-1", true);
        test("7/[0-2]=0-3", true);
        test("7%[0-2]=1", true);
        test("99999*99999/1000/100=14098", true);
        test("99999*99999%10=9", true);
        Due.says("from the left on");
        test("9-3-2=4", true);
        test("90/3/2=15", true);
        test("7%4*2=6", true);
        test("2*7%4=2", true);
        test("9/2*2=8", true);
        test("1+2*3=7", true);
        test("[1+2]*3=9", true);
        Due.says("a number of one to five digits");
        test("99999>99998", true);
        test("00000=0", true);
        test("00009=9", true);
    }

    private static void comparisons() {
        Due.says("or E, one of < > =, and E");
        String[] signs = {"<", "=", ">"};
        for (int sign = 0; sign < 3; sign++) {
            test("4" + signs[sign] + "5", sign == 0);
            test("5" + signs[sign] + "5", sign == 1);
            test("6" + signs[sign] + "5", sign == 2);
            test("0-1" + signs[sign] + "0", sign == 0);
            test("32768*65536" + signs[sign] + "32768*65536-1", sign == 0);
        }
        // As many TESTS as a text can have.
        for (String last : new String[] {"1=1", "1=2"}) {
            test("1=1&".repeat(54) + last, last.equals("1=1"));
            test("1=2|".repeat(54) + last, last.equals("1=1"));
        }
        // And the longest E with all its brackets.
        worth("1+1*[1+1*[1+1*[1+1*[1+1*[1+1*[1+1*9]]]]]]", 16);
    }

    private static void refusals() {
        Due.says("what is divided by 0 is REFUSED: then the whole C of the RULE does not hold, the E of it is 0");
        worth("1/0", 0);
        worth("1%0", 0);
        worth("0/0", 0);
        worth("50+1/0", 0);
        worth("1/0+50", 0);
        worth("50+0*[1%0]", 0);
        worth("50/1", 50);
        worth("50%51", 50);
        test("1/0=0", false);
        test("!1/0=0", false);
        test("!(1/0=0)", false);
        test("!!1/0=0", false);
        test("0=1%0", false);
        test("1/0=0|1=1", false);
        test("1=1&1/0=0|1=1", false);
        test("(1/0=0)|1=1", false);
        SharedWindow window = Due.street("a0", "a", "x(1/0=0|1=1);c1/0(1=1);c5(1=1);j7(1/0=1);j8(1=1)");
        Due.is("it is not left", window.tried(1, 1), 0);
        Due.is("the c that holds is 0", window.tried(1, 0), 0);
        Due.is("the j that is refused does not hold", window.tried(1, 3), 8);
    }

    private static void asMuchAsMatters() {
        Due.says("Of a C as much is asked, from the left, as matters");
        test("1=1|1/0=0", true);
        test("1=2|1/0=0", false);
        test("1=2&1/0=0", false);
        test("!(1=2&1/0=0)", true);
        test("!(1=1|1/0=0)", false);
        test("1=2&1/0=0|1=1", true);
        test("1=1|1/0=0&1/0=0", true);
        test("(1=1|1/0=0)&1=1", true);
        test("(1=2&1/0=0)|1=1", true);
        test("1=2&(1/0=0|1=1)|1=1", true);
    }
}
