/** Promises 23 to 29: what is reckoned from the tape alone. */
public final class GamesTest {
    private static final int LEAST = Integer.MIN_VALUE;
    private static final int MOST = Integer.MAX_VALUE;

    public static void main(String[] args) {
        crack();
        halves();
        swaps();
        sale();
        rotas();
        panes();
        keepIt();
        lengths();
        fullTape();
        Due.end("GamesTest");
    }

    private static void crack(int which, int whose, int... said) {
        SharedWindow window = Due.street("a0;c0;p0", "a-cc-p-----a");
        for (int what = 0; what <= 1; what++) {
            Due.put(window, said);
            Due.is("crack " + what, window.crack(said.length / 2, what), what == 0 ? which : whose);
            Due.is("count(7)", window.count(7), 0);
        }
    }

    private static void crack() {
        crack(8191 & ~15, 1 + 32768, 3, 0);
        crack(15, 1 + 4, 3, 1);
        crack(1, 1, 0, 1);
        crack(8190, 1 + 4 + 32768, 0, 0);
        crack(4096, 0, 11, 0);
        crack(4095, 1 + 4 + 32768, 11, 1);
        crack(0, 0, 4, 1, 4, 0);
        crack(0, 0, 4, 1, 6, 0);
        crack(16, 0, 3, 0, 4, 1);
        crack(48, 32768, 3, 0, 5, 1, 3, 0, 5, 1, 11, 1, 0, 0, 1, 0, 2, 0, 10, 1, 9, 1, 8, 1, 7, 1);
        crack(-3, -3, 12, 0);
        crack(-3, -3, 3, 2);
        crack(-3, -3, 3, 0, 255, 1);
        crack(-3, -3, 3, 0, 4, 255);
        crack(-3, -3, 4, 1, 4, 0, 12, 0);
    }

    private static void halves(int due, int... joys) {
        SharedWindow window = new SharedWindow();
        Due.put(window, joys);
        Due.is("halves", window.halves(joys.length), due);
        Due.is("count(7)", window.count(7), 0);
    }

    private static void halves() {
        halves(9, 3, 9);
        halves(9, 9, 3);
        halves(11, 3, 9, 1, 2);
        halves(4, 1, 9, 3);
        halves(12, 1, 5, 11);
        halves(0, 0, 0);
        halves(255 * 6, 255, 255, 255, 255, 255, 255, 255, 255, 255, 255, 255, 255);
        halves(101, 2, 100, 1, 1);
        halves(42, 1, 2, 3, 4, 5, 6, 7, 8, 9, 10, 11, 12);
    }

    private static void swaps(int n, int twos, int most, int... worths) {
        SharedWindow window = new SharedWindow();
        for (int what = 0; what <= 1; what++) {
            Due.put(window, worths);
            Due.is("swaps(" + n + ", " + what + ")", window.swaps(n, what), what == 0 ? twos : most);
            Due.is("count(7)", window.count(7), 0);
        }
    }

    private static void swaps() {
        swaps(2, 1, 1, 1, 2, 2, 1);
        swaps(2, 0, 0, 1, 1, 2, 1);
        swaps(2, 0, 0, 2, 1, 2, 1);
        swaps(2, 0, 0, 1, 2, 1, 1);
        swaps(3, 3, 1, 0, 1, 1, 1, 0, 1, 1, 1, 0);
        swaps(4, 6, 2, 0, 1, 1, 1, 1, 0, 1, 1, 1, 1, 0, 1, 1, 1, 1, 0);
        // A row of four: the two in the middle would stand in the way of two twos at once.
        swaps(4, 3, 2, 1, 9, 0, 0, 9, 1, 9, 0, 0, 9, 1, 9, 0, 0, 9, 1);
        // A star: all would swap with the first.
        swaps(4, 3, 1, 0, 9, 9, 9, 9, 1, 0, 0, 9, 0, 1, 0, 9, 0, 0, 1);
        int[] all = new int[64];
        for (int i = 0; i < 64; i++) {
            all[i] = i % 9 == 0 ? 254 : 255;
        }
        swaps(8, 28, 4, all);
    }

    private static void sale(int n, int worth, int[] buyers, int... worths) {
        SharedWindow window = new SharedWindow();
        Due.put(window, worths);
        Due.is("sale(" + n + ", 100)", window.sale(n, 100), worth);
        for (int turn = 0; turn < n; turn++) {
            Due.put(window, worths);
            Due.is("sale(" + n + ", " + turn + ")", window.sale(n, turn), buyers[turn]);
            Due.is("count(7)", window.count(7), 0);
        }
    }

    private static void sale() {
        sale(2, 10, new int[] {1, 0}, 1, 5, 5, 1);
        sale(2, 2, new int[] {0, 1}, 1, 1, 1, 1);
        sale(3, 0, new int[] {0, 1, 2}, 0, 0, 0, 0, 0, 0, 0, 0, 0);
        sale(3, 12, new int[] {2, 0, 1}, 1, 5, 0, 0, 0, 3, 4, 5, 0);
        sale(3, 13, new int[] {0, 2, 1}, 1, 5, 0, 0, 0, 3, 4, 9, 0);
        // Of 0-1-2 and 1-2-0 with the same worth the first person's lowest turn.
        sale(3, 6, new int[] {0, 1, 2}, 2, 2, 0, 0, 2, 2, 2, 0, 2);
        // Where the first person's turn is the same, the second one's lowest.
        sale(3, 5, new int[] {1, 2, 0}, 0, 0, 5, 0, 0, 0, 0, 0, 0);
        int[] all = new int[64];
        int[] buyers = new int[8];
        for (int i = 0; i < 64; i++) {
            all[i] = i / 8 + i % 8 == 7 ? 255 : 254;
            buyers[i % 8] = 7 - i % 8;
        }
        sale(8, 8 * 255, buyers, all);
    }

    private static void rotas() {
        SharedWindow window = new SharedWindow();
        for (int k = 1; k <= 12; k++) {
            Due.is("rotas(" + k + ")", window.rotas(k), rotasByHand(k));
        }
        Due.is("rotas(1)", window.rotas(1), 0);
        Due.is("rotas(2)", window.rotas(2), 2);
        Due.is("rotas(3)", window.rotas(3), 6138);
        Due.is("rotas(10)", window.rotas(10), 3628800L * 1155);
        Due.is("rotas(12)", window.rotas(12), 479001600);
        for (int k : new int[] {0, 13, -1, LEAST, MOST}) {
            Due.is("rotas(" + k + ")", window.rotas(k), -1);
        }
    }

    /** By who is left out: the ways of so many houses at most, with and without each of them. */
    static long rotasByHand(int k) {
        long sum = 0;
        long chosen = 1;
        for (int out = 0; out < k; out++) {
            int left = k - out;
            long ways = left;
            for (int turn = 1; turn < 12; turn++) {
                ways *= left - 1;
            }
            sum += (out % 2 == 0 ? 1 : -1) * chosen * ways;
            chosen = chosen * (k - out) / (out + 1);
        }
        return sum;
    }

    private static void panes(int wide, int due, int... rows) {
        SharedWindow window = new SharedWindow();
        Due.put(window, rows);
        Due.is("panes(" + rows.length + ", " + wide + ")", window.panes(rows.length, wide), due);
        Due.is("count(7)", window.count(7), 0);
    }

    private static void panes() {
        panes(1, 1, 0);
        panes(1, 0, 1);
        panes(1, 1, 254);
        panes(6, 36, 0, 0, 0, 0, 0, 0);
        panes(6, 36, 192, 192, 192, 192, 192, 192);
        panes(6, 0, 63, 63, 63, 63, 63, 63);
        panes(6, 18, 0, 0, 0, 1 + 4 + 16, 2 + 8 + 32, 63);
        panes(3, 4, 4, 4, 7);
        panes(3, 3, 5, 5, 5);
        panes(3, 1, 2, 5, 2, 7);
        panes(4, 6, 1, 0, 8, 15);
        panes(6, 12, 33, 33, 33, 63, 0, 0);
    }

    private static void keepIt(int k, int due, int... brought) {
        SharedWindow window = new SharedWindow();
        Due.put(window, brought);
        Due.is("keepIt(" + brought.length + ", " + k + ")", window.keepIt(brought.length, k), due);
        Due.is("count(7)", window.count(7), 0);
    }

    private static void keepIt() {
        keepIt(0, 7, 7);
        keepIt(-1, 0, 7);
        keepIt(0, 3, 3, 9, 5);
        keepIt(1, 9, 3, 9, 5);
        keepIt(2, 5, 3, 9, 5);
        keepIt(-1, 1, 3, 9, 5);
        keepIt(1, 5, 9, 9, 5);
        keepIt(-1, 0, 9, 9, 5);
        keepIt(-1, 0, 9, 3, 9);
        keepIt(2, 9, 9, 3, 9);
        keepIt(0, 0, 0, 0, 0);
        keepIt(2, 0, 0, 1, 0);
        keepIt(1, 4, 3, 3, 4, 8, 1);
        keepIt(3, 8, 3, 3, 4, 8, 1);
        keepIt(-1, 3, 3, 3, 4, 8, 1);
        keepIt(19, 20, 1, 2, 3, 4, 5, 6, 7, 8, 9, 10, 11, 12, 13, 14, 15, 16, 17, 18, 19, 20);
        keepIt(-1, 19, 1, 2, 3, 4, 5, 6, 7, 8, 9, 10, 11, 12, 13, 14, 15, 16, 17, 18, 19, 20);
        keepIt(0, 255, 255, 0);
        keepIt(1, 0, 255, 0);
    }

    /** With bytes enough for more than the document allows. */
    private static void fullTape() {
        SharedWindow window = Due.street("a0;A0@0-11", "");
        Due.put(window, new int[260]);
        Due.is("shortest(7, 0)", window.shortest(7, 0), -1);
        Due.is("crack(13, 0)", window.crack(13, 0), -1);
        Due.is("halves(13)", window.halves(13), -1);
        Due.is("swaps(9, 0)", window.swaps(9, 0), -1);
        Due.is("sale(9, 100)", window.sale(9, 100), -1);
        Due.is("sale(8, 8)", window.sale(8, 8), -1);
        Due.is("panes(7, 6)", window.panes(7, 6), -1);
        Due.is("keepIt(21, 0)", window.keepIt(21, 0), -1);
        Due.is("check(17)", window.check(17), -2);
        Due.is("law(241)", window.law(241), -1);
        Due.is("terrace(201)", window.terrace(201), -1);
        Due.is("rota(61)", window.rota(61), -1);
        Due.is("count(7)", window.count(7), 260);
        Due.is("sale(8, 100)", window.sale(8, 100), 0);
        Due.is("count(7)", window.count(7), 0);
    }

    private static void lengths() {
        SharedWindow window = new SharedWindow();
        Due.is("crack(1, 0)", window.crack(1, 0), -1);
        Due.is("halves(2)", window.halves(2), -1);
        Due.is("swaps(2, 0)", window.swaps(2, 0), -1);
        Due.is("sale(2, 100)", window.sale(2, 100), -1);
        Due.is("panes(1, 1)", window.panes(1, 1), -1);
        Due.is("keepIt(1, 0)", window.keepIt(1, 0), -1);
        Due.put(window, new int[20]);
        int[][] pairs = {{0, 0}, {13, 0}, {11, 0}, {-1, 0}, {1, -1}, {1, 2}, {LEAST, 0}, {MOST, 0}, {1, LEAST}};
        for (int[] pair : pairs) {
            Due.is("crack(" + pair[0] + ", " + pair[1] + ")", window.crack(pair[0], pair[1]), -1);
        }
        for (int n : new int[] {1, 0, -1, 13, 20, LEAST, MOST}) {
            Due.is("halves(" + n + ")", window.halves(n), -1);
        }
        pairs = new int[][] {{1, 0}, {0, 0}, {9, 0}, {5, 0}, {8, 0}, {2, -1}, {2, 2}, {-2, 0}, {LEAST, 0}, {MOST, 0},
            {65537, 0}};
        for (int[] pair : pairs) {
            Due.is("swaps(" + pair[0] + ", " + pair[1] + ")", window.swaps(pair[0], pair[1]), -1);
        }
        pairs = new int[][] {{1, 100}, {0, 100}, {9, 100}, {5, 100}, {2, -1}, {2, 2}, {3, 3}, {2, 99}, {2, 101},
            {-2, 100}, {LEAST, 100}, {MOST, 100}, {65536, 100}};
        for (int[] pair : pairs) {
            Due.is("sale(" + pair[0] + ", " + pair[1] + ")", window.sale(pair[0], pair[1]), -1);
        }
        pairs = new int[][] {{0, 1}, {7, 1}, {1, 0}, {1, 7}, {-1, 1}, {1, -1}, {LEAST, 1}, {1, MOST}};
        for (int[] pair : pairs) {
            Due.is("panes(" + pair[0] + ", " + pair[1] + ")", window.panes(pair[0], pair[1]), -1);
        }
        pairs = new int[][] {{0, 0}, {0, -1}, {21, 0}, {-1, -1}, {1, 1}, {20, 20}, {5, -2}, {LEAST, 0}, {MOST, 0}};
        for (int[] pair : pairs) {
            Due.is("keepIt(" + pair[0] + ", " + pair[1] + ")", window.keepIt(pair[0], pair[1]), -1);
        }
        Due.is("count(7)", window.count(7), 20);
    }
}
