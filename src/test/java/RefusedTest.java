import java.util.function.ToLongFunction;

/** A call that is refused changes nothing, and the tape only where it is told. */
public final class RefusedTest {
    private static final int[] FAR = {Integer.MIN_VALUE, -1000, -4, -3, -2, 261, 1000, 65536, Integer.MAX_VALUE};

    public static void main(String[] args) {
        Due.says("A call that is refused (NONE, false) changes nothing but the tape, where it is told.");
        telling();
        texts();
        asking();
        reading();
        lacking();
        Due.says("-2: there is none; -3: one not told");
        emptied();
        Due.end("RefusedTest");
    }

    /** Something of everything: told, gone by, kept, and a full tape. */
    private static SharedWindow busy() {
        SharedWindow window = new SharedWindow();
        Due.terrace(window, "a0;b6;p3;A0@0-11;B6@10-3;P3@5-5");
        Due.rota(window, "ab-p2(b-a)");
        Due.law(window, "c1+w%3(d>0);jn+2*b(w>2);x(w=7)");
        window.days(3);
        window.keep();
        window.days(2);
        return window;
    }

    private static SharedWindow withTape(String tape) {
        SharedWindow window = busy();
        Due.put(window, tape);
        return window;
    }

    /** Another object with the same calls but for this one answers all as this object does. */
    private static void refused(String call, String tape, long due, ToLongFunction<SharedWindow> ask) {
        SharedWindow window = withTape(tape);
        SharedWindow other = withTape(tape);
        Due.is(call, ask.applyAsLong(window), due);
        Due.same(call, Due.all(window), Due.all(other));
        Due.is(call + ": the tape's law", window.law(240), other.law(240));
        Due.is(call + ": its rules", window.count(6), other.count(6));
        Due.is(call + ": tried by it", window.tried(9, 0), other.tried(9, 0));
        Due.is(call + ": undo", window.undo() ? 1 : 0, other.undo() ? 1 : 0);
        for (int what : new int[] {0, 3, 4, 5, 8, 9}) {
            Due.is(call + ": what was kept", window.count(what), other.count(what));
        }
    }

    private static void refused(String call, long due, ToLongFunction<SharedWindow> ask) {
        refused(call, fullTape(), due, ask);
    }

    /** A law of 240 bytes, so that it shows later on whether the tape is as it was. */
    private static String fullTape() {
        String law = "c" + "h+s-n*".repeat(37) + "2(w<5|b>1);x(w=7)";
        return law + "?".repeat(260 - law.length());
    }

    private static void telling() {
        Due.is("the law on the tape", withTape(fullTape()).law(240), 2);
        refused("a feed too many", -1, window -> window.feed(1, 2, 3, 4, 5));
        refused("turn(12, 0)", 0, window -> window.turn(12, 0) ? 1 : 0);
        refused("turn(-1, 0)", 0, window -> window.turn(-1, 0) ? 1 : 0);
        refused("turn(0, 2)", 0, window -> window.turn(0, 2) ? 1 : 0);
        refused("turn(0, 16)", 0, window -> window.turn(0, 16) ? 1 : 0);
        refused("turn(0, -2)", 0, window -> window.turn(0, -2) ? 1 : 0);
        refused("seed(-1)", 0, window -> window.seed(-1) ? 1 : 0);
        refused("seed(65536)", 0, window -> window.seed(65536) ? 1 : 0);
        refused("days(0)", -1, window -> window.days(0));
        refused("days(101)", -1, window -> window.days(101));
        refused("tried(0, 0)", -1, window -> window.tried(0, 0));
        refused("tried(101, 0)", -1, window -> window.tried(101, 0));
        refused("tried(1, 4)", -1, window -> window.tried(1, 4));
        refused("tried(1, 12)", -1, window -> window.tried(1, 12));
        for (int odd : FAR) {
            refused("turn(" + odd + ", 0)", 0, window -> window.turn(odd, 0) ? 1 : 0);
            refused("turn(0, " + odd + ")", 0, window -> window.turn(0, odd) ? 1 : 0);
            refused("days(" + odd + ")", -1, window -> window.days(odd));
            refused("tried(" + odd + ", 0)", -1, window -> window.tried(odd, 0));
            refused("tried(1, " + odd + ")", -1, window -> window.tried(1, odd));
        }
    }

    private static void texts() {
        refused("law(0)", -1, window -> window.law(0));
        refused("law(241)", -1, window -> window.law(241));
        refused("terrace(0)", -1, window -> window.terrace(0));
        refused("terrace(201)", -1, window -> window.terrace(201));
        refused("rota(0)", -1, window -> window.rota(0));
        refused("rota(61)", -1, window -> window.rota(61));
        for (int odd : FAR) {
            refused("law(" + odd + ")", -1, window -> window.law(odd));
            refused("terrace(" + odd + ")", -1, window -> window.terrace(odd));
            refused("rota(" + odd + ")", -1, window -> window.rota(odd));
        }
    }

    private static void asking() {
        for (int odd : FAR) {
            refused("sees(" + odd + ", 0)", -1, window -> window.sees(odd, 0));
            refused("sees(0, " + odd + ")", -1, window -> window.sees(0, odd));
            refused("houseIs(" + odd + ", 1)", -1, window -> window.houseIs(odd, 1));
            refused("houseIs(0, " + odd + ")", -1, window -> window.houseIs(0, odd));
            refused("rotaIs(" + odd + ")", -1, window -> window.rotaIs(odd));
            refused("next(" + odd + ", 0, 0)", -1, window -> window.next(odd, 0, 0));
            refused("next(0, " + odd + ", 0)", -1, window -> window.next(0, odd, 0));
            refused("next(0, 0, " + odd + ")", -1, window -> window.next(0, 0, odd));
            refused("light(" + odd + ", 0)", -1, window -> window.light(odd, 0));
            refused("light(0, " + odd + ")", -1, window -> window.light(0, odd));
            refused("seers(" + odd + ")", -1, window -> window.seers(odd));
            refused("ifSwapped(" + odd + ", 0)", -1, window -> window.ifSwapped(odd, 0));
            refused("ifSwapped(0, " + odd + ")", -1, window -> window.ifSwapped(0, odd));
            refused("bestBreath(" + odd + ", 0)", -1, window -> window.bestBreath(odd, 0));
            refused("bestBreath(0, " + odd + ")", -1, window -> window.bestBreath(0, odd));
            refused("clearest(" + odd + ")", -1, window -> window.clearest(odd));
            refused("whoHad(" + odd + ", 0)", -1, window -> window.whoHad(odd, 0));
            refused("readers(" + odd + ", 0)", -1, window -> window.readers(odd, 0));
            refused("readers(0, " + odd + ")", -1, window -> window.readers(0, odd));
            refused("second(" + odd + ")", -1, window -> window.second(odd));
            refused("rotas(" + odd + ")", -1, window -> window.rotas(odd));
            refused("count(" + odd + ")", -1, window -> window.count(odd));
        }
        refused("sees(2, 0)", -1, window -> window.sees(2, 0));
        refused("houseIs(2, 1)", -1, window -> window.houseIs(2, 1));
        refused("next(0, 2, 0)", -1, window -> window.next(0, 2, 0));
        refused("next(1, 0, 0) never", -2, window -> window.next(1, 0, 0));
        refused("seers(2)", -1, window -> window.seers(2));
        refused("whoHad(0, 65536)", -1, window -> window.whoHad(0, 65536));
        refused("whoHad(0, -1)", -1, window -> window.whoHad(0, -1));
        refused("rotas(13)", -1, window -> window.rotas(13));
    }

    private static void reading() {
        for (int odd : FAR) {
            refused("shortest(" + odd + ", 0)", -1, window -> window.shortest(odd, 0));
            refused("shortest(1, " + odd + ")", -1, window -> window.shortest(1, odd));
            refused("crack(" + odd + ", 0)", -1, window -> window.crack(odd, 0));
            refused("crack(1, " + odd + ")", -1, window -> window.crack(1, odd));
            refused("halves(" + odd + ")", -1, window -> window.halves(odd));
            refused("swaps(" + odd + ", 0)", -1, window -> window.swaps(odd, 0));
            refused("swaps(2, " + odd + ")", -1, window -> window.swaps(2, odd));
            refused("sale(" + odd + ", 100)", -1, window -> window.sale(odd, 100));
            refused("sale(2, " + odd + ")", -1, window -> window.sale(2, odd));
            refused("panes(" + odd + ", 1)", -1, window -> window.panes(odd, 1));
            refused("panes(1, " + odd + ")", -1, window -> window.panes(1, odd));
            refused("keepIt(" + odd + ", 0)", -1, window -> window.keepIt(odd, 0));
            refused("keepIt(20, " + odd + ")", -1, window -> window.keepIt(20, odd));
            refused("check(" + odd + ")", -2, window -> window.check(odd));
        }
        refused("shortest(7, 0)", -1, window -> window.shortest(7, 0));
        refused("shortest(1, 2)", -1, window -> window.shortest(1, 2));
        refused("crack(13, 0)", -1, window -> window.crack(13, 0));
        refused("halves(1)", -1, window -> window.halves(1));
        refused("halves(13)", -1, window -> window.halves(13));
        refused("swaps(9, 0)", -1, window -> window.swaps(9, 0));
        refused("sale(2, 2)", -1, window -> window.sale(2, 2));
        refused("panes(7, 1)", -1, window -> window.panes(7, 1));
        refused("keepIt(20, 20)", -1, window -> window.keepIt(20, 20));
        refused("check(17)", -2, window -> window.check(17));
    }

    /** With a tape that is empty, or has twenty bytes. */
    private static void lacking() {
        refused("law(1)", "", -1, window -> window.law(1));
        refused("terrace(1)", "", -1, window -> window.terrace(1));
        refused("rota(1)", "", -1, window -> window.rota(1));
        refused("shortest(1, 0)", "", -1, window -> window.shortest(1, 0));
        refused("crack(1, 0)", "", -1, window -> window.crack(1, 0));
        refused("halves(2)", "", -1, window -> window.halves(2));
        refused("swaps(2, 0)", "", -1, window -> window.swaps(2, 0));
        refused("sale(2, 100)", "", -1, window -> window.sale(2, 100));
        refused("panes(1, 1)", "", -1, window -> window.panes(1, 1));
        refused("keepIt(1, 0)", "", -1, window -> window.keepIt(1, 0));
        refused("check(1)", "", -2, window -> window.check(1));
        String twenty = "a0;b0;c0;d0;e0;f0;g0";
        refused("law(21)", twenty, -1, window -> window.law(21));
        refused("terrace(21)", twenty, -1, window -> window.terrace(21));
        refused("rota(21)", twenty, -1, window -> window.rota(21));
        refused("crack(11, 0)", twenty, -1, window -> window.crack(11, 0));
        refused("swaps(5, 0)", twenty, -1, window -> window.swaps(5, 0));
        refused("sale(5, 100)", twenty, -1, window -> window.sale(5, 100));
        SharedWindow window = withTape(twenty);
        window.terrace(21);
        Due.is("the twenty bytes are still there", window.terrace(20), 7);
    }

    /** These empty the tape, and change nothing else. */
    private static void emptied(String call, long due, int[] bytes, ToLongFunction<SharedWindow> ask) {
        SharedWindow window = busy();
        SharedWindow other = busy();
        Due.put(window, bytes);
        Due.is(call, ask.applyAsLong(window), due);
        Due.is(call + ": empty then", window.count(7), 0);
        Due.same(call, Due.all(window), Due.all(other));
        Due.is(call + ": undo", window.undo() ? 1 : 0, other.undo() ? 1 : 0);
        Due.is(call + ": what was kept", window.count(9), other.count(9));
    }

    private static void emptied() {
        emptied("shortest -3", -3, new int[] {2, 0}, window -> window.shortest(1, 0));
        emptied("shortest -3", -3, new int[] {0, 2}, window -> window.shortest(1, 1));
        emptied("shortest -2", -2, new int[] {1, 0}, window -> window.shortest(1, 0));
        emptied("shortest -2", -2, new int[] {1, 0}, window -> window.shortest(1, 1));
        emptied("crack -3", -3, new int[] {12, 0}, window -> window.crack(1, 0));
        emptied("crack -3", -3, new int[] {0, 2}, window -> window.crack(1, 1));
        emptied("a fault of a law", -1000, new int[] {0}, window -> window.law(1));
        emptied("a fault of a terrace", -1000, new int[] {0}, window -> window.terrace(1));
        emptied("a fault of a rota", -1000, new int[] {0}, window -> window.rota(1));
        emptied("what is wrong by check", 0, new int[] {1}, window -> window.check(1));
        emptied("halves", 2, new int[] {1, 2}, window -> window.halves(2));
        emptied("swaps", 0, new int[4], window -> window.swaps(2, 0));
        emptied("sale", 0, new int[4], window -> window.sale(2, 100));
        emptied("panes", 1, new int[1], window -> window.panes(1, 1));
        emptied("keepIt", 0, new int[1], window -> window.keepIt(1, 0));
    }
}
