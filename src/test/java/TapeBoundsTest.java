import java.util.function.IntUnaryOperator;
import java.util.function.ToLongBiFunction;

/** Promise 3, and of each call that reads the tape: which n will do, and how many bytes it wants. */
public final class TapeBoundsTest {
    private static final int FULL = 260;

    public static void main(String[] args) {
        feeding();
        texts();
        numbers();
        unusedBytes();
        Due.end("TapeBoundsTest");
    }

    private static SharedWindow fed(int bytes) {
        SharedWindow window = new SharedWindow();
        for (int i = 0; i < bytes; i += 20) {
            window.feed(0, 0, 0, 0, 0);
        }
        return window;
    }

    private static void feeding() {
        Due.says("Twenty bytes come behind the tape, the highest of each int first: how many it has");
        SharedWindow window = new SharedWindow();
        Due.is("an empty tape", window.count(7), 0);
        Due.is("the first feed", window.feed(0x61303b62, 0x303b6330, 0x3b64303b, 0x65303b66, 0x303b6730), 20);
        Due.is("the second feed, behind it", window.feed(0x3b683131, 0, 0, 0, 0), 40);
        Due.is("both as one text", window.terrace(24), 8);
        Due.is("houseIs(7, 0)", window.houseIs(7, 0), 11);
        Due.is("empty again", window.count(7), 0);
        Due.is("and the next feed is the first", window.feed(0x70370000, -1, -1, -1, -1), 20);
        Due.is("of which is read", window.terrace(2), 1);
        Due.is("houseIs(15, 0)", window.houseIs(15, 0), 7);

        Due.says("NONE if that would be more than 260");
        window = fed(240);
        Due.is("to 260", window.feed(0, 0, 0, 0, 0), FULL);
        for (int i = 0; i < 3; i++) {
            Due.is("to 280", window.feed(-1, -1, -1, -1, -1), -1);
            Due.is("count(7)", window.count(7), FULL);
        }
        Due.is("what it had is still there", window.keepIt(20, 19), 0);
        Due.is("feed", window.feed(-1, -1, -1, -1, -1), 20);
        Due.is("what is new", window.keepIt(20, 19), 255);
    }

    /** From least to greatest n will do, if the tape has so many bytes; another n is refused and the tape stays. */
    private static void reads(String sentence, String name, int[] leastGreatest, long no, IntUnaryOperator bytesOf,
        ToLongBiFunction<SharedWindow, Integer> call) {
        Due.says(sentence);
        int least = leastGreatest[0];
        int greatest = leastGreatest[1];
        for (int n : new int[] {least - 1, greatest + 1, greatest + 100, -Math.max(least, 1), Integer.MIN_VALUE, Integer.MAX_VALUE}) {
            SharedWindow window = fed(FULL);
            Due.is(name + " " + n + " of a full tape", call.applyAsLong(window, n), no);
            Due.is("it stays", window.count(7), FULL);
        }
        for (int n = least; n <= greatest; n++) {
            int wanted = bytesOf.applyAsInt(n);
            if (wanted > 0) {
                int few = (wanted - 1) / 20 * 20;
                SharedWindow window = fed(few);
                Due.is(name + " " + n + " of " + few, call.applyAsLong(window, n), no);
                Due.is("it stays", window.count(7), few);
            }
            for (int many : new int[] {(wanted + 19) / 20 * 20, FULL}) {
                SharedWindow window = fed(many);
                Due.yes(name + " " + n + " of " + many, call.applyAsLong(window, n) != no);
                Due.is("empty then", window.count(7), 0);
            }
        }
    }


    private static int[] bounds(int least, int greatest) {
        return new int[] {least, greatest};
    }

    private static void texts() {
        reads("THE LAW by the first n bytes of the tape (1 to 240; empty then)", "law", bounds(1, 240), -1, n -> n,
            SharedWindow::law);
        reads("A TERRACE by the first n bytes of the tape (1 to 200; empty then)", "terrace", bounds(1, 200), -1, n -> n,
            SharedWindow::terrace);
        reads("A ROTA by the first n bytes of the tape (1 to 60; empty then)", "rota", bounds(1, 60), -1, n -> n,
            SharedWindow::rota);
    }

    private static void numbers() {
        reads("by the first 2 n bytes of the tape (HOUSE, THING; n 1 to 6; empty then)", "shortest", bounds(1, 6), -1,
            n -> 2 * n, (window, n) -> window.shortest(n, 0));
        reads("by the first 2 n bytes of the tape (TURN, 0 or 1; n 1 to 12; empty then)", "crack", bounds(1, 12), -1,
            n -> 2 * n, (window, n) -> window.crack(n, 0));
        reads("HALVES by the first n bytes of the tape (n 2 to 12; empty then)", "halves", bounds(2, 12), -1, n -> n,
            SharedWindow::halves);
        reads("SWAPS of n (2 to 8) by the first n times n bytes of the tape", "swaps", bounds(2, 8), -1, n -> n * n,
            (window, n) -> window.swaps(n, 0));
        reads("SALE of n (2 to 8) by the first n times n bytes of the tape (empty then)", "sale", bounds(2, 8), -1,
            n -> n * n, (window, n) -> window.sale(n, 100));
        reads("PANES of n rows (1 to 6), so many wide (1 to 6), by the first n bytes of the tape", "panes", bounds(1, 6),
            -1, n -> n, (window, n) -> window.panes(n, 1));
        reads("KEEP IT by the first n bytes of the tape (n 1 to 20; empty then)", "keepIt", bounds(1, 20), -1, n -> n,
            (window, n) -> window.keepIt(n, 0));
        reads("CHECK by the first n bytes of the tape (0 to 16; empty then; of HOUSES not told 255)", "check",
            bounds(0, 16), -2, n -> n, SharedWindow::check);
    }

    /** What is behind the first n bytes goes with them, unread. */
    private static void unusedBytes() {
        Due.says("by the first n bytes of the tape");
        SharedWindow window = new SharedWindow();
        for (int i = 0; i < 13; i++) {
            window.feed(0x61303b62, 0x313b6332, 0x3b643300, 0, 0);
        }
        Due.is("terrace(5)", window.terrace(5), 2);
        Due.is("count(1)", window.count(1), 3);
        Due.is("count(7)", window.count(7), 0);
        Due.is("nothing is left to read", window.terrace(1), -1);
    }
}
