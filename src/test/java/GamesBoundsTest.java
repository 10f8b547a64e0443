import java.util.Arrays;

/** Promises 19 and 23 to 29, what is reckoned from the tape: each sentence that names a bound. */
public final class GamesBoundsTest {
    private static final int LEAST = Integer.MIN_VALUE;
    private static final int MOST = Integer.MAX_VALUE;
    private static final int[] NO_HALF = {LEAST, -2, -1, 2, 3, 100, MOST};

    public static void main(String[] args) {
        shortest();
        shortestRefused();
        crack();
        crackRefused();
        halves();
        swaps();
        sale();
        saleOfLikeOnes();
        rotas();
        panes();
        keepIt();
        keepItRefused();
        oneAfterAnother();
        Due.end("GamesBoundsTest");
    }

    private static SharedWindow full() {
        SharedWindow window = Due.street("a0;A0@0-11", "a");
        Due.put(window, new int[260]);
        return window;
    }

    private static void stays(String call, int got, int want, SharedWindow window) {
        Due.is(call, got, want);
        Due.is(call + ": the tape stays", window.count(7), 260);
    }

    private static void wish(String terrace, String wishes, int way, int first) {
        SharedWindow window = Due.street(terrace, "");
        int[] bytes = new int[wishes.length()];
        for (int i = 0; i < bytes.length; i++) {
            bytes[i] = wishes.charAt(i) - (i % 2 == 0 ? 'a' : 'A');
        }
        for (int what = 0; what <= 1; what++) {
            Due.put(window, bytes);
            Due.is(terrace + " " + wishes, window.shortest(bytes.length / 2, what), what == 0 ? way : first);
            Due.is("empty then", window.count(7), 0);
        }
    }

    private static void shortest() {
        Due.says("THE SHORTEST ROTA: 1 to 6 wishes (a HOUSE, a THING): the least WAY (not round) of a rota in which each HOUSE has a TURN in which it SEES its THING");
        wish("a0;A0@0-0", "aA", 0, 0);
        wish("p0;P0@11-11", "pP", 0, 15);
        wish("a0;p6;A0@0-0;P6@11-11", "aApP", 15, 0);
        wish("a0;p6;A0@11-11;P6@0-0", "aApP", 15, 15);
        wish("a0;p6;A0@11-0;P6@5-5", "aApP", 15, 0);
        wish("a0;b0;c0;d0;e0;p0;A0@0-11", "aAbAcAdAeApA", 15, 0);
        wish("a0;b2;c4;d6;e8;p10;A0@0-0;B2@1-1;C4@2-2;D6@3-3;E8@4-4;F10@5-5", "aAbBcCdDeEpF", 15, 0);
        // There and back all the time, up to six wishes: the first of all has turn 6, the last turn 11.
        wish("a0;p6;A0@6-6;B6@7-7;C0@8-8;D6@9-9;E0@10-10;F6@11-11", "aApBaCpDaEpF", 75, 0);
        wish("a0;p6;A0@0-0;B6@1-1;C0@2-2;D6@3-3;E0@4-4;F6@5-5", "pFaEpDaCpBaA", 75, 0);
        Due.says("(each wish by itself; nobody's TURNS may be)");
        wish("a0;A0@0-0;B0@11-11", "aAaB", 0, 0);
        wish("a0;A0@4-4;B0@4-4", "aAaB", 0, 0);
        wish("a0;A0@4-4", "aAaAaAaAaAaA", 0, 0);
        Due.says("the HOUSE of the first TURN that is one's (of like ones the lowest)");
        wish("a0;p0;A0@0-11", "pAaA", 15, 0);
        wish("b0;c0;o0;A0@0-11", "oAcAbA", 13, 1);
        wish("b0;c6;o0;A0@1-11;B6@0-0", "oAcBbA", 1 + 13, 2);
        Due.says("what 0 THE WAY, 1 the HOUSE; -2: there is none; -3: one not told; NONE: no such ones, it has not so many (the tape stays)");
        wish("a0;A6@0-11", "aA", -2, -2);
        wish("a0;b0;A0@5-5", "aAbA", -2, -2);
        wish("a0;b0;A0@5-6", "aAbA", 1, 0);
        wish("a0;b0;c0;A0@11-0", "aAbAcA", -2, -2);
        wish("a0;b0;c0;A0@11-1", "aAbAcA", 2, 0);
        // By the law of the wrap the turns 11 and 0 are the last and the first of one day.
        wish("a0;p6;A0@11-0;B6@0-0", "aApB", 15, 15);
        wish("a0;p6;A0@11-0;B6@11-11", "aApB", 15, 0);
    }

    private static void shortestRefused() {
        Due.says("-3: one not told");
        SharedWindow window = Due.street("b0;o0;B0@0-11;O0@0-11", "");
        int[][] odd = {{0, 1}, {2, 1}, {13, 1}, {15, 1}, {16, 1}, {255, 1}, {1, 0}, {1, 2}, {1, 13}, {1, 15}, {1, 16},
            {1, 255}, {17, 1}, {1, 17}};
        String before = Due.all(window);
        for (int[] wish : odd) {
            int[] bytes = {1, 1, 14, 14, 1, 14, 14, 1, 1, 1, wish[0], wish[1]};
            Due.put(window, bytes);
            Due.is(Arrays.toString(wish) + " as the sixth", window.shortest(6, 1), -3);
            Due.is("empty then", window.count(7), 0);
            Due.put(window, bytes);
            Due.is(Arrays.toString(wish) + " behind the fifth", window.shortest(5, 0), 13);
        }
        Due.same("-3", Due.all(window), before);
        Due.put(window, 0, 0);
        Due.is("as the first", window.shortest(1, 0), -3);
        SharedWindow none = new SharedWindow();
        Due.put(none, 0, 0);
        Due.is("nothing told", none.shortest(1, 0), -3);
        // One not told, and one that can't be had.
        window = Due.street("a0;A6@0-11", "");
        Due.put(window, 0, 0, 1, 0);
        Due.is("-3 ahead of -2", window.shortest(2, 0), -3);
        for (int what : NO_HALF) {
            window = full();
            stays("shortest(1, " + what + ")", window.shortest(1, what), -1, window);
        }
    }

    private static void crack(int which, int whose, int... said) {
        SharedWindow window = Due.street("a0;b0;p0", "a9-bp");
        for (int what = 0; what <= 1; what++) {
            Due.put(window, said);
            Due.is(Arrays.toString(said) + " " + what, window.crack(said.length / 2, what), what == 0 ? which : whose);
            Due.is("empty then", window.count(7), 0);
        }
    }

    private static void crack() {
        Due.says("(there is none ahead of it, one from it on; in the TURN itself there is), or none came, by what all say");
        for (int turn = 0; turn < 12; turn++) {
            int upTo = (2 << turn) - 1;
            crack(upTo, turn < 10 ? 1 : turn == 10 ? 3 : 32771, turn, 1);
            crack(8191 - upTo, turn < 10 ? 32770 : turn == 10 ? 32768 : 0, turn, 0);
        }
        Due.says("which (bits; 12: none came; there may be none of all)");
        crack(4096, 0, 11, 0);
        crack(0, 0, 0, 1, 0, 0);
        crack(0, 0, 11, 0, 11, 1);
        crack(0, 0, 0, 1, 11, 0);
        crack(4094 - 2048, 2, 0, 0, 10, 1);
        crack(4094, 32770, 0, 0, 11, 1);
        crack(2048, 32768, 10, 0, 11, 1);
        crack(2, 0, 0, 0, 1, 1);
        Due.says("1 to 12 who say that in a TURN there was one (1) or none (0)");
        crack(64, 0, 0, 0, 1, 0, 2, 0, 3, 0, 4, 0, 5, 0, 6, 1, 7, 1, 8, 1, 9, 1, 10, 1, 11, 1);
        crack(4096, 0, 0, 0, 1, 0, 2, 0, 3, 0, 4, 0, 5, 0, 6, 0, 7, 0, 8, 0, 9, 0, 10, 0, 11, 0);
        crack(1, 1, 11, 1, 10, 1, 9, 1, 8, 1, 7, 1, 6, 1, 5, 1, 4, 1, 3, 1, 2, 1, 1, 1, 0, 1);
        crack(0, 0, 1, 1, 1, 1, 1, 1, 1, 1, 1, 1, 1, 1, 1, 1, 1, 1, 1, 1, 1, 1, 1, 1, 1, 0);
    }

    private static void crackRefused() {
        Due.says("whose by THE ROTA (bits of HOUSES)");
        SharedWindow all = Due.street(Due.wholeTerrace(0), "abcdefghijkp");
        Due.put(all, 11, 1);
        Due.is("twelve houses", all.crack(1, 1), 2047 + 32768);
        Due.put(all, 11, 0);
        Due.is("none came, nobody's", all.crack(1, 1), 0);
        Due.says("-3: no TURN, another byte than 0, 1");
        crack(-3, -3, 12, 0);
        crack(-3, -3, 255, 1);
        crack(-3, -3, 0, 2);
        crack(-3, -3, 11, 255);
        crack(-3, -3, 1, 1, 1, 1, 1, 1, 1, 1, 1, 1, 1, 1, 1, 1, 1, 1, 1, 1, 1, 1, 1, 1, 12, 1);
        crack(-3, -3, 1, 1, 1, 1, 1, 1, 1, 1, 1, 1, 1, 1, 1, 1, 1, 1, 1, 1, 1, 1, 1, 1, 11, 2);
        // Where there is none of all already.
        crack(-3, -3, 0, 1, 0, 0, 12, 0);
        SharedWindow window = Due.street("a0", "a");
        Due.put(window, 0, 1, 12, 2);
        Due.is("what is behind them is not asked", window.crack(1, 0), 1);
        for (int what : NO_HALF) {
            window = full();
            stays("crack(1, " + what + ")", window.crack(1, what), -1, window);
        }
        Due.is("no houses", whose(new SharedWindow()), 0);
    }

    private static int whose(SharedWindow window) {
        Due.put(window, 11, 1);
        return window.crack(1, 1);
    }

    private static void halves(int due, int... joys) {
        SharedWindow window = new SharedWindow();
        Due.put(window, joys);
        Due.is("halves of " + Arrays.toString(joys), window.halves(joys.length), due);
        Due.is("empty then", window.count(7), 0);
    }

    private static void halves() {
        Due.says("HALVES: 2 to 12 hours' joys (bytes), in a row, for two by turns from either end, each takes the end that leaves him most in the end: how much the first one has");
        halves(0, 0, 0);
        halves(255, 0, 255);
        halves(255, 255, 0);
        halves(255, 255, 255);
        halves(1, 1, 0);
        halves(2, 1, 255, 1);
        halves(255 + 1, 255, 1, 2);
        halves(255 * 6, 255, 255, 255, 255, 255, 255, 255, 255, 255, 255, 255, 255);
        halves(255 * 6, 255, 255, 255, 255, 255, 255, 255, 255, 255, 255, 255);
        halves(255 * 6, 255, 0, 255, 0, 255, 0, 255, 0, 255, 0, 255, 0);
        halves(255 * 6, 0, 255, 0, 255, 0, 255, 0, 255, 0, 255, 0, 255);
        halves(0, 0, 0, 0, 0, 0, 0, 0, 0, 0, 0, 0, 0);
        // With an odd number he who is second can take the middle one.
        halves(255, 0, 0, 255, 255, 0);
        SharedWindow window = new SharedWindow();
        Due.put(window, 3, 9, 200);
        Due.is("the third is not asked", window.halves(2), 9);
    }

    private static void swaps(int n, int twos, int most, int... worths) {
        SharedWindow window = new SharedWindow();
        for (int what = 0; what <= 1; what++) {
            Due.put(window, worths);
            Due.is(Arrays.toString(worths) + " " + what, window.swaps(n, what), what == 0 ? twos : most);
            Due.is("empty then", window.count(7), 0);
        }
    }

    /** n people who think that their own TURN is worth own, and another one other. */
    private static int[] worths(int n, int own, int other) {
        int[] worths = new int[n * n];
        for (int i = 0; i < n * n; i++) {
            worths[i] = i / n == i % n ? own : other;
        }
        return worths;
    }

    private static void swaps() {
        Due.says("twos of whom to both the other one's TURN is worth more than his own: how many; the most such twos at once");
        swaps(2, 1, 1, 0, 255, 255, 0);
        swaps(2, 1, 1, 254, 255, 1, 0);
        swaps(2, 0, 0, 255, 255, 1, 0);
        swaps(2, 0, 0, 0, 0, 0, 0);
        swaps(2, 0, 0, 0, 1, 0, 0);
        swaps(2, 0, 0, 0, 0, 1, 0);
        for (int n = 2; n <= 8; n++) {
            swaps(n, n * (n - 1) / 2, n / 2, worths(n, 127, 128));
            swaps(n, 0, 0, worths(n, 128, 128));
            swaps(n, 0, 0, worths(n, 255, 0));
        }
        // A row of eight, in which each would swap with those beside him.
        int[] row = new int[64];
        for (int i = 0; i < 64; i++) {
            row[i] = Math.abs(i / 8 - i % 8) == 1 ? 2 : i / 8 == i % 8 ? 1 : 0;
        }
        swaps(8, 7, 4, row);
        // The last with all the others.
        int[] star = new int[64];
        for (int i = 0; i < 64; i++) {
            star[i] = i / 8 == i % 8 ? 1 : i / 8 == 7 || i % 8 == 7 ? 2 : 0;
        }
        swaps(8, 7, 1, star);
        Due.says("what 0 twos, 1 the most at once; NONE: no such ones, it has not so many (the tape stays)");
        for (int what : NO_HALF) {
            SharedWindow window = full();
            stays("swaps(2, " + what + ")", window.swaps(2, what), -1, window);
        }
    }

    private static void sale(int n, int worth, int[] buyers, int... worths) {
        SharedWindow window = new SharedWindow();
        Due.put(window, worths);
        Due.is("sale(" + n + ", 100)", window.sale(n, 100), worth);
        Due.is("empty then", window.count(7), 0);
        for (int turn = 0; turn < n; turn++) {
            Due.put(window, worths);
            Due.is("sale(" + n + ", " + turn + ")", window.sale(n, turn), buyers[turn]);
            Due.is("empty then", window.count(7), 0);
        }
    }

    private static void sale() {
        Due.says("the most worth that all can have in all, one TURN each; whose a TURN is then");
        for (int n = 2; n <= 8; n++) {
            int[] straight = new int[n];
            int[] back = new int[n];
            int[] backwards = new int[n * n];
            for (int i = 0; i < n; i++) {
                straight[i] = i;
                back[i] = n - 1 - i;
                backwards[i * n + n - 1 - i] = 255;
            }
            sale(n, 0, straight, new int[n * n]);
            sale(n, 255 * n, straight, worths(n, 255, 255));
            sale(n, 255 * n, straight, worths(n, 255, 254));
            sale(n, 255 * n, back, backwards);
        }
        Due.says("what 100 worth in all, else whose TURN what is; NONE: no such ones, it has not so many (the tape stays)");
        for (int n = 2; n <= 8; n++) {
            for (int what : new int[] {LEAST, -100, -1, n, n + 1, 99, 101, MOST}) {
                SharedWindow window = full();
                stays("sale(" + n + ", " + what + ")", window.sale(n, what), -1, window);
            }
        }
    }

    private static void saleOfLikeOnes() {
        Due.says("(of like ones that in which the first person's TURN is the lowest, then the second one's, and so on)");
        sale(2, 2, new int[] {0, 1}, 1, 1, 1, 1);
        sale(3, 3, new int[] {0, 1, 2}, 1, 1, 1, 1, 1, 1, 1, 1, 1);
        // 1-2-0 and 2-0-1 are like ones: the first person's lowest is 1.
        sale(3, 6, new int[] {2, 0, 1}, 0, 2, 2, 2, 0, 2, 2, 2, 0);
        // The first person's is 2 in any case: the second one's lowest is 0.
        sale(3, 9, new int[] {1, 2, 0}, 0, 0, 9, 0, 0, 0, 0, 0, 0);
        // One of three has the 9: the first person's lowest TURN is another one.
        sale(3, 9, new int[] {0, 1, 2}, 0, 0, 9, 0, 0, 9, 0, 0, 9);
        // The last two of four: 3 has 2, 2 has 3 or the other way round.
        sale(4, 4, new int[] {1, 0, 2, 3}, 0, 1, 0, 0, 1, 0, 0, 0, 0, 0, 1, 1, 0, 0, 1, 1);
    }

    private static void rotas() {
        Due.says("in how many ways 12 TURNS can be k HOUSES' (1 to 12), each has one at least, none two one behind the other (not round)");
        SharedWindow window = new SharedWindow();
        Due.is("rotas(1)", window.rotas(1), 0);
        Due.is("rotas(2)", window.rotas(2), 2);
        Due.is("rotas(3)", window.rotas(3), 6138);
        Due.is("rotas(11)", window.rotas(11), 39916800L * 55);
        Due.is("rotas(12)", window.rotas(12), 479001600);
        Due.is("beyond 32 bits", window.rotas(9), 362880L * 11880);
        for (int k = 1; k <= 12; k++) {
            Due.is("rotas(" + k + ")", window.rotas(k), GamesTest.rotasByHand(k));
        }
        Due.says("ROTAS of k HOUSES (1 to 12); NONE: no such k");
        for (int k : new int[] {LEAST, -12, -1, 0, 13, 14, MOST}) {
            Due.is("rotas(" + k + ")", window.rotas(k), -1);
        }
    }

    private static void panes(int wide, int due, int... rows) {
        SharedWindow window = new SharedWindow();
        Due.put(window, rows);
        Due.is(Arrays.toString(rows) + " " + wide, window.panes(rows.length, wide), due);
        Due.is("empty then", window.count(7), 0);
    }

    private static void panes() {
        Due.says("PANES: a window of 1 to 6 by 1 to 6 panes, some blind (bits by bytes of rows; bits beyond are not asked): the greatest upright rectangle of clear ones");
        for (int n = 1; n <= 6; n++) {
            for (int wide = 1; wide <= 6; wide++) {
                int all = (1 << wide) - 1;
                int[] rows = new int[n];
                panes(wide, n * wide, rows);
                Arrays.fill(rows, 255 - all);
                panes(wide, n * wide, rows);
                Arrays.fill(rows, all);
                panes(wide, 0, rows);
                rows[n - 1] = 255 - (1 << wide - 1);
                panes(wide, 1, rows);
                Arrays.fill(rows, 1 << wide - 1);
                panes(wide, n * (wide - 1), rows);
            }
        }
        panes(6, 4, 0b111111, 0b110011, 0b110011, 0b111111);
        panes(6, 5, 0b011111, 0b011111, 0b011111, 0b011111, 0b011111);
        panes(6, 3, 0b010101, 0b101010, 0b011101, 0b011101, 0b011101);
        SharedWindow window = new SharedWindow();
        Due.put(window, 0, 0, 0);
        Due.is("the third row is not asked", window.panes(2, 6), 12);
        Due.says("NONE: no such ones, it has not so many (the tape stays)");
        for (int wide : new int[] {LEAST, -1, 0, 7, 8, MOST}) {
            window = full();
            stays("panes(1, " + wide + ")", window.panes(1, wide), -1, window);
            stays("panes(6, " + wide + ")", window.panes(6, wide), -1, window);
        }
    }

    private static void keepIt(int k, int due, int... brought) {
        SharedWindow window = new SharedWindow();
        Due.put(window, brought);
        Due.is(Arrays.toString(brought) + " " + k, window.keepIt(brought.length, k), due);
        Due.is("empty then", window.count(7), 0);
    }

    private static void keepIt() {
        Due.says("the first so many are let go, then the first that brings more than all ahead (let go of none: the first day) is taken (or the last)");
        keepIt(0, 0, 0);
        keepIt(0, 255, 255);
        keepIt(0, 1, 1, 2, 3);
        keepIt(1, 2, 1, 2, 3);
        keepIt(2, 3, 1, 2, 3);
        keepIt(1, 3, 1, 1, 3, 4);
        keepIt(1, 0, 255, 255, 254, 0);
        keepIt(2, 255, 0, 0, 255);
        keepIt(1, 255, 255, 255);
        int[] days = new int[20];
        for (int i = 0; i < 20; i++) {
            days[i] = i;
        }
        for (int k = 0; k < 20; k++) {
            keepIt(k, k, days);
        }
        keepIt(-1, 19, days);
        int[] back = new int[20];
        for (int i = 0; i < 20; i++) {
            back[i] = 255 - i;
        }
        keepIt(0, 255, back);
        keepIt(1, 236, back);
        keepIt(19, 236, back);
        keepIt(-1, 0, back);
        Due.says("the k by which that is most (of like ones the least)");
        keepIt(-1, 0, 0);
        keepIt(-1, 0, 7, 7, 7);
        keepIt(-1, 1, 0, 7, 7);
        keepIt(-1, 1, 3, 7, 7);
        keepIt(-1, 2, 3, 4, 5, 1);
        keepIt(-1, 0, 9, 1, 9);
        keepIt(-1, 1, 1, 9, 9);
        SharedWindow window = new SharedWindow();
        Due.put(window, 3, 2, 250);
        Due.is("the third day is not asked", window.keepIt(2, 1), 2);
    }

    /** The same object reckons again and again, and what it reckoned before does not show. */
    private static void oneAfterAnother() {
        Due.says("All memory is the terrace's own");
        SharedWindow window = new SharedWindow();
        int[] many = worths(8, 1, 255);
        for (int i = 0; i < 2; i++) {
            Due.put(window, many);
            Due.is("a great sale", window.sale(8, 100), 8 * 255);
            Due.put(window, 0, 0, 0, 0);
            Due.is("no swap", window.swaps(2, 1), 0);
            Due.put(window, many);
            Due.is("many swaps", window.swaps(8, 1), 4);
            Due.put(window, 0, 1, 0, 0);
            Due.is("a small sale", window.sale(2, 100), 1);
            Due.put(window, many);
            Due.is("many swaps", window.swaps(8, 1), 4);
            Due.put(window, new int[64]);
            Due.is("a sale for nothing", window.sale(8, 100), 0);
            Due.put(window, 255, 255, 255, 255, 255, 255, 255, 255, 255, 255, 255, 255);
            Due.is("many halves", window.halves(12), 6 * 255);
            Due.put(window, 1, 2, 3);
            Due.is("few halves", window.halves(3), 4);
            Due.is("rotas(12)", window.rotas(12), 479001600);
            Due.is("rotas(2)", window.rotas(2), 2);
        }
        window = Due.street("a0;b0;c0;d0;e0;f0;A0@0-11;B6@0-11", "");
        for (int i = 0; i < 2; i++) {
            Due.put(window, 5, 0, 4, 0, 3, 0, 2, 0, 1, 0, 0, 0);
            Due.is("six wishes", window.shortest(6, 0), 5);
            Due.put(window, 5, 0, 2, 0);
            Due.is("two wishes", window.shortest(2, 1), 2);
            Due.put(window, 5, 1);
            Due.is("one that can't be had", window.shortest(1, 0), -2);
        }
    }

    private static void keepItRefused() {
        Due.says("k 0 to n - 1: how much; k -1: the best k; NONE: no such ones, it has not so many (the tape stays)");
        for (int k : new int[] {-1, 0}) {
            SharedWindow window = full();
            stays("keepIt(0, " + k + ")", window.keepIt(0, k), -1, window);
        }
        for (int n = 1; n <= 20; n++) {
            for (int k : new int[] {LEAST, -3, -2, n, n + 1, MOST}) {
                SharedWindow window = full();
                stays("keepIt(" + n + ", " + k + ")", window.keepIt(n, k), -1, window);
            }
            for (int k : new int[] {-1, 0, n - 1}) {
                SharedWindow window = full();
                Due.is("keepIt(" + n + ", " + k + ")", window.keepIt(n, k), 0);
                Due.is("empty then", window.count(7), 0);
            }
        }
    }
}
