import java.util.Random;

/** Runs of calls by drawn numbers, answered by the program and by the Oracle. */
public final class OracleTest {
    private static final int RUNS = 60;
    private static final int CALLS = 512;
    private final Random random;
    private final SharedWindow window = new SharedWindow();
    private final Oracle oracle = new Oracle();
    private final StringBuilder told = new StringBuilder();

    private OracleTest(int run) {
        random = new Random(run);
    }

    public static void main(String[] args) {
        int runs = args.length == 0 ? RUNS : Integer.parseInt(args[0]);
        for (int run = 0; run < runs; run++) {
            OracleTest test = new OracleTest(run);
            for (int call = 0; call < CALLS; call++) {
                if (!test.askOnce()) {
                    System.out.println("in run " + run);
                    break;
                }
            }
        }
        Due.end("OracleTest");
    }

    private boolean same(String call, long got, long want) {
        Due.is(call, got, want);
        if (got != want) {
            System.out.println(told.substring(Math.max(0, told.length() - 3000)) + call);
        }
        told.append(call).append(" = ").append(want).append('\n');
        return got == want;
    }

    private boolean same(String call, boolean got, boolean want) {
        return same(call, got ? 1 : 0, want ? 1 : 0);
    }

    private int odd() {
        int[] some = {-1, -2, -3, 12, 13, 16, 17, 100, 241, 260, 261, 65536, Integer.MAX_VALUE, Integer.MIN_VALUE};
        return some[random.nextInt(some.length)];
    }

    /** Mostly below a bound, now and then far from it. */
    private int some(int bound) {
        return random.nextInt(25) == 0 ? odd() : random.nextInt(bound);
    }

    private boolean put(String text) {
        boolean fine = true;
        told.append("text ").append(text).append('\n');
        for (int start = 0; start < text.length() && fine; start += 20) {
            int[] five = new int[5];
            for (int i = 0; i < 20; i++) {
                int one = start + i < text.length() ? text.charAt(start + i) : random.nextInt(256);
                five[i / 4] = five[i / 4] << 8 | one;
            }
            fine = same("feed", window.feed(five[0], five[1], five[2], five[3], five[4]), oracle.feed(five));
        }
        return fine;
    }

    private boolean emptyTape() {
        return same("check(0)", window.check(0), oracle.check(0));
    }

    private String spoilt(String text, String signs) {
        if (random.nextInt(3) != 0) {
            return text;
        }
        StringBuilder spoilt = new StringBuilder(text);
        for (int i = random.nextInt(2); i >= 0; i--) {
            char sign = random.nextInt(20) == 0 ? (char) random.nextInt(256)
                : signs.charAt(random.nextInt(signs.length()));
            int at = random.nextInt(spoilt.length() + 1);
            switch (random.nextInt(3)) {
                case 0:
                    spoilt.insert(at, sign);
                    break;
                case 1:
                    if (at < spoilt.length() && spoilt.length() > 1) {
                        spoilt.deleteCharAt(at);
                    }
                    break;
                default:
                    if (at < spoilt.length()) {
                        spoilt.setCharAt(at, sign);
                    }
                    break;
            }
        }
        return spoilt.toString();
    }

    private String terraceText() {
        StringBuilder text = new StringBuilder();
        int houses = random.nextInt(65536) & (random.nextBoolean() ? 65535 : random.nextInt(65536));
        int things = random.nextInt(65536) & random.nextInt(65536);
        for (int i = 0; i < 16; i++) {
            if ((houses >> i & 1) == 1) {
                text.append((char) ('a' + i)).append(random.nextInt(12)).append(';');
            }
            if ((things >> i & 1) == 1) {
                text.append((char) ('A' + i)).append(random.nextInt(12)).append('@').append(random.nextInt(12))
                    .append('-').append(random.nextInt(12)).append(';');
            }
        }
        if (text.length() > 1 && random.nextInt(30) != 0) {
            text.setLength(text.length() - 1);
        }
        return text.length() == 0 ? "a1" : text.toString();
    }

    private String rotaText(int depth) {
        StringBuilder text = new StringBuilder();
        int told = oracle.count(1);
        for (int i = random.nextInt(4); i >= 0; i--) {
            if (random.nextInt(4) == 0) {
                text.append(2 + random.nextInt(random.nextInt(4) == 0 ? 8 : 2));
            }
            if (depth < 3 && random.nextInt(5) == 0) {
                text.append('(').append(rotaText(depth + 1)).append(')');
            } else {
                int house = random.nextInt(16);
                for (int tries = 0; tries < 6 && (told >> house & 1) == 0; tries++) {
                    house = random.nextInt(16);
                }
                text.append((told >> house & 1) == 0 && random.nextInt(4) != 0 ? '-' : (char) ('a' + house));
            }
        }
        return text.toString();
    }

    private String sumText(int depth) {
        StringBuilder text = new StringBuilder();
        for (int i = random.nextInt(3); i >= 0; i--) {
            if (depth > 0 && random.nextInt(5) == 0) {
                text.append('[').append(sumText(depth - 1)).append(']');
            } else if (random.nextBoolean()) {
                text.append("hgsdnbktw".charAt(random.nextInt(9)));
            } else {
                text.append(random.nextInt(random.nextInt(4) == 0 ? 100000 : 12));
            }
            if (i > 0) {
                text.append("+-*/%".charAt(random.nextInt(5)));
            }
        }
        return text.toString();
    }

    private String choiceText(int depth) {
        StringBuilder text = new StringBuilder();
        for (int i = random.nextInt(3); i >= 0; i--) {
            while (random.nextInt(4) == 0) {
                text.append('!');
            }
            if (depth > 0 && random.nextInt(4) == 0) {
                text.append('(').append(choiceText(depth - 1)).append(')');
            } else {
                text.append(sumText(Math.min(depth, 2))).append("<>=".charAt(random.nextInt(3)))
                    .append(sumText(Math.min(depth, 2)));
            }
            if (i > 0) {
                text.append("&|".charAt(random.nextInt(2)));
            }
        }
        return text.toString();
    }

    private String lawText() {
        StringBuilder text = new StringBuilder();
        int most = random.nextInt(20) == 0 ? 17 : random.nextInt(5);
        for (int i = most; i >= 0; i--) {
            char kind = "ccjjx".charAt(random.nextInt(5));
            text.append(kind).append(kind == 'x' ? "" : most > 9 ? "1" : sumText(3)).append('(')
                .append(most > 9 ? "h=" + random.nextInt(16) : choiceText(random.nextInt(5))).append(")")
                .append(i > 0 ? ";" : "");
        }
        return text.length() > 240 ? text.substring(0, 240) : text.toString();
    }

    private String bytes(int n, int bound) {
        StringBuilder text = new StringBuilder();
        for (int i = 0; i < n; i++) {
            text.append((char) (random.nextInt(60) == 0 ? random.nextInt(256) : random.nextInt(bound)));
        }
        return text.toString();
    }

    private boolean askOnce() {
        switch (random.nextInt(12)) {
            case 0:
                return tellText();
            case 1:
                return playGame();
            case 2:
                return shortest();
            case 3:
                return live();
            case 4:
                return askRota();
            case 5:
            case 6:
                return askSight();
            case 7:
                return keepOrUndo();
            default:
                return askState();
        }
    }

    private boolean tellText() {
        if (random.nextInt(4) != 0 && !emptyTape()) {
            return false;
        }
        int which = random.nextInt(5);
        String text = which == 0 ? spoilt(terraceText(), "abcpABCP0123456789@-;") : which <= 2
            ? spoilt(rotaText(0), "abcp23456789-()") : spoilt(lawText(), "cjxhgsdnbktw0123456789+-*/%[]()!&|<>=;");
        if (!put(text)) {
            return false;
        }
        int n = random.nextInt(30) == 0 ? some(262) : text.length();
        String call = (which == 0 ? "terrace" : which <= 2 ? "rota" : "law") + "(" + n + ")";
        return which == 0 ? same(call, window.terrace(n), oracle.terrace(n))
            : which <= 2 ? same(call, window.rota(n), oracle.rota(n)) : same(call, window.law(n), oracle.law(n));
    }

    private boolean playGame() {
        if (random.nextInt(4) != 0 && !emptyTape()) {
            return false;
        }
        int which = random.nextInt(7);
        int[] most = {12, 12, 8, which == 3 && random.nextInt(6) == 0 ? 8 : 6, 6, 20, 16};
        int n = some(most[which] + 1);
        int[] each = {2, 1, n, n, 1, 1, 1};
        int length = n < 0 || n > 20 ? 20 : Math.min(64, n * each[which]);
        if (!put(bytes(length, which == 0 ? 2 + random.nextInt(11) : 1 + random.nextInt(12)))) {
            return false;
        }
        int what = some(which == 4 ? 7 : which == 5 ? Math.max(1, Math.min(n, 20)) : 2);
        if (which == 3) {
            what = random.nextInt(3) == 0 ? 100 : some(8);
        } else if (which == 5 && random.nextInt(3) == 0) {
            what = -1;
        }
        String args = "(" + n + ", " + what + ")";
        switch (which) {
            case 0:
                return same("crack" + args, window.crack(n, what), oracle.crack(n, what));
            case 1:
                return same("halves" + args, window.halves(n), oracle.halves(n));
            case 2:
                return same("swaps" + args, window.swaps(n, what), oracle.swaps(n, what));
            case 3:
                return same("sale" + args, window.sale(n, what), oracle.sale(n, what));
            case 4:
                return same("panes" + args, window.panes(n, what), oracle.panes(n, what));
            case 5:
                return same("keepIt" + args, window.keepIt(n, what), oracle.keepIt(n, what));
            default:
                return same("check" + args, window.check(n), oracle.check(n));
        }
    }

    private boolean shortest() {
        if (random.nextInt(8) != 0) {
            return same("second(0)", window.second(0), oracle.second(0))
                && same("second(1)", window.second(1), oracle.second(1)) && wish();
        }
        int what = some(3);
        int k = some(14);
        return same("second(" + what + ")", window.second(what), oracle.second(what))
            && same("rotas(" + k + ")", window.rotas(k), oracle.rotas(k));
    }

    private boolean wish() {
        StringBuilder text = new StringBuilder();
        int n = random.nextInt(7);
        for (int i = 0; i < n; i++) {
            int house = random.nextInt(16);
            int thing = random.nextInt(16);
            for (int tries = 0; tries < 60 && (oracle.seers(thing) < 0 || (oracle.seers(thing) >> house & 1) == 0); tries++) {
                house = random.nextInt(16);
                thing = random.nextInt(16);
            }
            text.append((char) house).append((char) thing);
        }
        if (!emptyTape() || !put(text.toString())) {
            return false;
        }
        int what = some(2);
        int number = random.nextInt(20) == 0 ? some(8) : n;
        return same("shortest(" + number + ", " + what + ")", window.shortest(number, what), oracle.shortest(number, what));
    }

    private boolean live() {
        int n = random.nextInt(3) == 0 ? some(102) : 1 + random.nextInt(4);
        if (random.nextInt(3) == 0) {
            return same("days(" + n + ")", window.days(n), oracle.days(n));
        }
        int what = random.nextBoolean() ? some(5) : 9 + random.nextInt(18);
        return same("tried(" + n + ", " + what + ")", window.tried(n, what), oracle.tried(n, what));
    }

    private boolean askRota() {
        int one = some(13);
        int other = some(random.nextBoolean() ? 13 : 3);
        String args = "(" + one + ", " + other + ")";
        switch (random.nextInt(6)) {
            case 0:
                int house = random.nextInt(5) == 0 ? -1 : some(17);
                return same("turn(" + one + ", " + house + ")", window.turn(one, house), oracle.turn(one, house));
            case 1:
                int what = random.nextBoolean() ? 99 + random.nextInt(5) : one;
                return same("rotaIs(" + what + ")", window.rotaIs(what), oracle.rotaIs(what));
            case 2:
                return same("ifSwapped" + args, window.ifSwapped(one, other), oracle.ifSwapped(one, other));
            case 3:
                return same("spread()", window.spread(), oracle.spread());
            case 4:
                return same("readers" + args, window.readers(one, other), oracle.readers(one, other));
            default:
                return same("bestBreath" + args, window.bestBreath(one, other), oracle.bestBreath(one, other));
        }
    }

    private boolean askSight() {
        int house = some(17);
        int turn = some(13);
        int what = some(6);
        switch (random.nextInt(7)) {
            case 0:
                return same("sees(" + house + ", " + turn + ")", window.sees(house, turn), oracle.sees(house, turn));
            case 1:
                return same("houseIs(" + house + ", " + what + ")", window.houseIs(house, what), oracle.houseIs(house, what));
            case 2:
                int thing = some(17);
                return same("next(" + house + ", " + thing + ", " + turn + ")", window.next(house, thing, turn),
                    oracle.next(house, thing, turn));
            case 3:
                return same("light(" + house + ", " + what % 3 + ")", window.light(house, what % 3),
                    oracle.light(house, what % 3));
            case 4:
                return same("seers(" + house + ")", window.seers(house), oracle.seers(house));
            case 5:
                return same("clearest(" + what % 3 + ")", window.clearest(what % 3), oracle.clearest(what % 3));
            default:
                int seen = oracle.sees(house, turn);
                int bits = seen >= 0 && random.nextInt(4) != 0 ? seen : some(16);
                return same("whoHad(" + turn + ", " + bits + ")", window.whoHad(turn, bits), oracle.whoHad(turn, bits));
        }
    }

    private boolean keepOrUndo() {
        switch (random.nextInt(6)) {
            case 0:
                return same("keep()", window.keep(), oracle.keep());
            case 1:
                return same("undo()", window.undo(), oracle.undo());
            default:
                int x = random.nextInt(10) == 0 ? odd() : random.nextInt(65536);
                return same("seed(" + x + ")", window.seed(x), oracle.seed(x));
        }
    }

    private boolean askState() {
        int what = some(13);
        return same("count(" + what + ")", window.count(what), oracle.count(what));
    }
}
