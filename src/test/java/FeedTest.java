/** Promise 3: feed. */
public final class FeedTest {
    public static void main(String[] args) {
        order();
        signs();
        full();
        Due.end("FeedTest");
    }

    /** Each byte is more than all ahead of it, so letting go of k shows the byte at k. */
    private static void order() {
        for (int k = 0; k < 20; k++) {
            SharedWindow window = new SharedWindow();
            Due.is("feed", window.feed(0x01020304, 0x05060708, 0x090a0b0c, 0x0d0e0f10, 0x111213ff), 20);
            Due.is("keepIt(20, " + k + ")", window.keepIt(20, k), k == 19 ? 255 : k + 1);
            Due.is("count(7)", window.count(7), 0);
        }
    }

    private static void signs() {
        SharedWindow window = new SharedWindow();
        window.feed(0x80ff7f00, -1, Integer.MIN_VALUE, 0, 0);
        Due.is("halves(2)", window.halves(2), 255);
        window.feed(0, -1, 0, 0, 0);
        Due.is("halves(12)", window.halves(12), 510);
    }

    private static void full() {
        SharedWindow window = new SharedWindow();
        for (int i = 1; i <= 13; i++) {
            Due.is("feed " + i, window.feed(i, i, i, i, i), 20 * i);
        }
        Due.is("feed 14", window.feed(0, 0, 0, 0, 0), -1);
        Due.is("count(7)", window.count(7), 260);
        Due.is("keepIt(4, 3)", window.keepIt(4, 3), 1);
        Due.is("feed", window.feed(0, 0, 0, 0, 0), 20);
    }
}
