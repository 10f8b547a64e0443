/** Promises 19 and 22: shortest, second. */
public final class ShortestTest {
    public static void main(String[] args) {
        shortest();
        wrong();
        second();
        Due.end("ShortestTest");
    }

    /** Wishes as letters: "aA" is that house a sees thing A. */
    private static void wish(String terrace, String wishes, int way, int first) {
        SharedWindow window = Due.street(terrace, "");
        for (int what = 0; what <= 1; what++) {
            int[] bytes = new int[wishes.length()];
            for (int i = 0; i < bytes.length; i++) {
                bytes[i] = wishes.charAt(i) - (i % 2 == 0 ? 'a' : 'A');
            }
            Due.put(window, bytes);
            Due.is(terrace + " " + wishes + " " + what, window.shortest(bytes.length / 2, what),
                what == 0 ? way : first);
            Due.is("count(7)", window.count(7), 0);
        }
    }

    private static void shortest() {
        wish("c0;A0@3-3", "cA", 0, 2);
        wish("c0;A0@3-3", "cAcA", 0, 2);
        wish("a0;d0;A0@0-11", "aAdA", 3, 0);
        wish("a0;d0;A0@0-11", "dAaA", 3, 0);
        wish("a0;d0;A0@5-5", "aAdA", -2, -2);
        wish("a0;d6;A0@5-5;B6@3-3", "aAdB", 3, 3);
        wish("a0;d6;A0@5-5;B6@5-5", "aAdB", -2, -2);
        wish("a0;d6;A0@5-5;B6@5-6", "aAdB", 3, 0);
        wish("a0;A5@0-11", "aA", -2, -2);
        // A house that sees two things in one turn has both wishes by it.
        wish("c0;A0@3-3;B1@3-3", "cAcB", 0, 2);
        // There and back again, as its second thing is only to be seen late.
        wish("a0;p6;A0@0-0;B6@1-1;C0@2-2", "aApBaC", 30, 0);
        wish("a0;p6;A0@0-0;B6@1-1;C0@2-2", "pBaCaA", 30, 0);
        wish("a0;p6;A0@0-0;B6@1-11;C0@2-2", "pBaCaA", 15, 0);
        // From either end it is as far: the lowest house first.
        wish("b0;f0;p0;A0@0-11", "pAbAfA", 14, 1);
        // Time alone makes the high one first.
        wish("b0;f6;p0;A0@0-2;B6@0-0", "pAbAfB", 4 + 14, 5);
        wish("a0;b0;c0;d0;e0;f0;A0@0-5", "fAeAdAcAbAaA", 5, 0);
        wish("a0;b0;c0;d0;e0;f0;A0@0-4", "fAeAdAcAbAaA", -2, -2);
        wish("a0;b0;c0;d0;e0;f0;A0@10-3", "fAeAdAcAbAaA", 5, 0);
    }

    private static void wrong() {
        SharedWindow window = Due.street("a0;b0;A0@0-11", "");
        int[][] odd = {{2, 0}, {0, 1}, {16, 0}, {0, 16}, {255, 0}, {0, 255}, {0, 0, 1, 1}};
        for (int[] bytes : odd) {
            Due.put(window, bytes);
            Due.is("one not told", window.shortest(bytes.length / 2, 0), -3);
            Due.is("count(7)", window.count(7), 0);
        }
        Due.is("an empty tape", window.shortest(1, 0), -1);
        Due.put(window, new int[20]);
        int[][] calls = {{0, 0}, {7, 0}, {-1, 0}, {1, -1}, {1, 2}, {Integer.MAX_VALUE, 0}, {Integer.MIN_VALUE, 0},
            {1, Integer.MAX_VALUE}, {1073741825, 0}};
        for (int[] call : calls) {
            Due.is("shortest(" + call[0] + ", " + call[1] + ")", window.shortest(call[0], call[1]), -1);
        }
        Due.is("count(7)", window.count(7), 20);
        Due.is("shortest(6, 0)", window.shortest(6, 0), 0);
    }

    private static void second(String terrace, int number, int which) {
        SharedWindow window = Due.street(terrace, "");
        Due.is(terrace + " second(0)", window.second(0), number);
        Due.is(terrace + " second(1)", window.second(1), which);
    }

    private static void second() {
        second("a0", 0, 0);
        second("A0@0-0", 0, 0);
        second("a0;A5@0-0", 0, 0);
        second("a0;A0@5-5", 1, 1);
        second("b0;c0;A0@5-5", 1, 2);
        second("a0;b1;c2;A0@5-5;B2@3-3", 1, 2);
        second("b0;A5@0-0;B0@0-0", 1, 2);
        // Three houses with lower bits would do too, but two are fewer.
        second("a0;b4;c8;d6;A0@0-0;B5@0-0;C7@0-0", 2, 1 + 8);
        second("a11;b2;c0;d1;A10@0-0;B0@0-0;C1@0-0;D2@0-0", 2, 1 + 2);
        second("a0;b3;c6;d9;A0@0-0;B3@0-0;C6@0-0;D9@0-0", 4, 15);
        // a and p, or b and c: two either way, b and c are the least.
        second("a1;b0;c2;A0@0-0;B1@0-0;C2@0-0;D3@0-0;E11@0-0", 2, 2 + 4);
        second("a0;b2;c10;d4;p6;A11@0-0;B3@0-0;C5@0-0;D0@0-0", 2, 1 + 8);
        second("a0;b0;c0;d0;e0;f0;g0;h0;i0;j0;k0;l0;m0;n0;o0;p0;A11@0-0;B1@0-0", 1, 1);
        second("p0;o2;A11@0-0;B3@0-0;C7@0-0", 2, 49152);
        SharedWindow window = new SharedWindow();
        for (int odd : new int[] {-1, 2, 100, Integer.MIN_VALUE, Integer.MAX_VALUE}) {
            Due.is("second(" + odd + ")", window.second(odd), -1);
        }
    }
}
