/** Promise 5: terrace. */
public final class TerraceTest {
    public static void main(String[] args) {
        faults();
        lines();
        lengths();
        replaces();
        Due.end("TerraceTest");
    }

    private static void faulty(String text, int number, int place) {
        SharedWindow window = Due.street("b1;B1@2-3", "b", "x(w=9)");
        window.days(1);
        String before = Due.all(window);
        Due.is(text, Due.terrace(window, text), Due.fault(number, place));
        Due.same(text, Due.all(window), before);
    }

    private static void faults() {
        faulty(";", 1, 0);
        faulty("q1", 1, 0);
        faulty("Q1@1-1", 1, 0);
        faulty("1", 1, 0);
        faulty("a", 1, 1);
        faulty("a;", 1, 1);
        faulty("a-1", 1, 1);
        faulty("a1 ", 1, 2);
        faulty("a1b2", 1, 2);
        faulty("a1@1-1", 1, 2);
        faulty("a1;", 1, 3);
        faulty("a1;;b1", 1, 3);
        faulty("A1;", 1, 2);
        faulty("A1@;", 1, 3);
        faulty("A1@1;", 1, 4);
        faulty("A1@1-;", 1, 5);
        faulty("A1-1@1", 1, 2);
        faulty("A1@1-1-", 1, 6);
        faulty("a" + (char) 233, 1, 1);
        faulty((char) 0 + "1", 1, 0);
        faulty("a000", 2, 3);
        faulty("a999", 2, 3);
        faulty("A111@1-1", 2, 3);
        faulty("A1@123-1", 2, 5);
        faulty("A1@1-123", 2, 7);
        faulty("a12", 3, 1);
        faulty("a99;", 3, 1);
        faulty("a12x", 3, 1);
        faulty("a1;b12;q", 3, 4);
        faulty("A12", 3, 1);
        faulty("A11@12", 3, 4);
        faulty("A11@11-12;", 3, 7);
        faulty("a1;b2;a", 6, 6);
        faulty("a1;a12", 6, 3);
        faulty("A1@1-1;a1;A", 6, 10);
    }

    private static String full(String last) {
        StringBuilder text = new StringBuilder();
        for (int i = 0; i < 16; i++) {
            text.append((char) ('a' + i)).append("0;").append((char) ('A' + i)).append("0@0-0;");
        }
        text.setLength(text.length() - 1);
        return text.append(last).toString();
    }

    private static void lines() {
        SharedWindow window = new SharedWindow();
        Due.is("32 lines", Due.terrace(window, full("")), 32);
        Due.is("count(1)", window.count(1), 65535);
        Due.is("count(2)", window.count(2), 65535);
        int length = full("").length();
        faulty(full(";a"), 4, length + 1);
        faulty(full(";A"), 4, length + 1);
        faulty(full(";p00"), 4, length + 1);
        faulty(full(";q"), 1, length + 1);
        faulty(full(";"), 1, length + 1);
        faulty(full(";;"), 1, length + 1);
        Due.is("two digits", Due.terrace(window, "p11;h07;A00@11-01"), 3);
        Due.is("houseIs(15, 0)", window.houseIs(15, 0), 11);
        Due.is("houseIs(7, 0)", window.houseIs(7, 0), 7);
        Due.is("sees(15, 11)", window.sees(15, 11), 1);
        Due.is("sees(15, 1)", window.sees(15, 1), 1);
        Due.is("sees(15, 2)", window.sees(15, 2), 0);
    }

    private static void lengths() {
        SharedWindow window = new SharedWindow();
        Due.is("empty tape", window.terrace(1), -1);
        Due.put(window, "a1");
        for (int n : new int[] {0, -1, 21, 201, Integer.MIN_VALUE, Integer.MAX_VALUE}) {
            Due.is("terrace(" + n + ")", window.terrace(n), -1);
        }
        Due.is("count(7)", window.count(7), 20);
        Due.is("terrace(2)", window.terrace(2), 1);
        Due.is("count(7)", window.count(7), 0);
        // Sixteen houses and sixteen things with two digits each: 16 * 4 + 15 * 10 + 9 bytes are too many.
        StringBuilder text = new StringBuilder("a00");
        for (int i = 0; i < 16; i++) {
            text.append(';').append((char) ('A' + i)).append("00@00-11");
        }
        text.append(";b00;c00;d00;e00;f00;g00;h00;i00;j00").append(";k");
        Due.is("a text of 201 bytes", text.length(), 201);
        Due.put(window, text.toString());
        Due.is("terrace(201)", window.terrace(201), -1);
        Due.is("count(7)", window.count(7), 220);
        Due.is("terrace(200)", window.terrace(200), Due.fault(1, 200));
        Due.is("count(7)", window.count(7), 0);
        Due.put(window, text.toString());
        Due.is("terrace(199)", window.terrace(199), 26);
    }

    private static void replaces() {
        SharedWindow window = Due.street("a0;b0;A0@0-11", "ab-ba", "c3(1=1)");
        window.seed(77);
        window.days(2);
        Due.is("count(5)", window.count(5), 15);
        int x = window.count(8);
        Due.is("terrace", Due.terrace(window, "b7;C7@1-1"), 2);
        int[] due = {2, 2, 4, -2, 0, 0, 1, 0, x, 0, 0, 2};
        for (int what = 0; what < due.length; what++) {
            Due.is("count(" + what + ")", window.count(what), due[what]);
        }
        int[] turns = {-2, 1, -2, 1, -2, -2};
        for (int turn = 0; turn < turns.length; turn++) {
            Due.is("rotaIs(" + turn + ")", window.rotaIs(turn), turns[turn]);
        }
        Due.is("houseIs(0, 0)", window.houseIs(0, 0), -1);
        Due.is("houseIs(1, 0)", window.houseIs(1, 0), 7);
        Due.is("houseIs(1, 1)", window.houseIs(1, 1), 0);
        Due.terrace(window, "a0;b7");
        Due.is("the turns that were dropped stay nobody's", window.rotaIs(0), -2);
    }
}
