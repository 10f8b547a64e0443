import java.lang.management.ManagementFactory;

/** All calls of one run live in one room: calls make nothing, the constructor little; and none throws. */
public final class RoomTest {
    private static final int[] ODD = {0, 1, 2, 3, 5, 8, 11, 12, 13, 16, 20, 60, 100, 200, 240, 260, 65535, 65536,
        -1, -2, -3, 46341, 65537, 1 << 30, 1 << 31, Integer.MAX_VALUE};

    public static void main(String[] args) {
        room();
        anyArguments();
        Due.end("RoomTest");
    }

    private static long allocated() {
        return ((com.sun.management.ThreadMXBean) ManagementFactory.getThreadMXBean())
            .getThreadAllocatedBytes(Thread.currentThread().getId());
    }

    private static void room() {
        new SharedWindow();
        long start = allocated();
        SharedWindow window = new SharedWindow();
        long made = allocated() - start;
        Due.yes("a new object takes " + made + " bytes", made < 20000);
        askAll(window, 2, 1);
        start = allocated();
        long sum = 0;
        for (int i = 0; i < 100; i++) {
            sum += askAll(window, 2, 1);
        }
        made = allocated() - start;
        Due.yes("calls take " + made + " bytes, " + sum, made < 4096);
    }

    private static void anyArguments() {
        SharedWindow window = Due.street("a0;b6;p3;A0@0-11;B7@10-3", "ab-p2(b-a)", "c1(1=1);jn/b(w<5);x(h/[w-3]=0)");
        for (int one : ODD) {
            for (int other : ODD) {
                askAll(window, one, other);
                Due.yes("tape", window.count(7) >= 0);
            }
        }
    }

    private static long askAll(SharedWindow window, int one, int other) {
        long sum = window.turn(one, other) ? 1 : 0;
        for (int read = 0; read < 12; read++) {
            window.feed(one, other, 0x01000201, 0, one * other);
            sum += readTape(window, read, one, other);
        }
        sum += window.days(one) + window.tried(one, other) + window.sees(one, other) + window.houseIs(one, other)
            + window.rotaIs(one) + window.next(one, other, one) + window.next(other, one, one)
            + window.light(one, other) + window.seers(one) + window.ifSwapped(one, other) + window.spread()
            + window.bestBreath(one, other) + window.clearest(one) + window.whoHad(one, other)
            + window.readers(one, other) + window.second(one) + window.rotas(one) + window.keep()
            + window.count(one) + (window.seed(one) ? 1 : 0) + (window.undo() ? 1 : 0);
        return sum;
    }

    private static int readTape(SharedWindow window, int read, int one, int other) {
        switch (read) {
            case 0:
                return window.shortest(one, other);
            case 1:
                return window.crack(one, other);
            case 2:
                return window.halves(one);
            case 3:
                return window.swaps(one, other);
            case 4:
                return window.sale(one, other);
            case 5:
                return window.panes(one, other);
            case 6:
                return window.keepIt(one, other);
            case 7:
                return window.check(one);
            case 8:
                return window.law(one);
            case 9:
                return window.rota(one);
            case 10:
                return window.terrace(one);
            default:
                return window.check(0);
        }
    }
}
