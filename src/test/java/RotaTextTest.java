/** Promise 6: rota. */
public final class RotaTextTest {
    public static void main(String[] args) {
        faults();
        turns();
        lengths();
        Due.end("RotaTextTest");
    }

    private static void faulty(String text, int number, int place) {
        SharedWindow window = Due.street("a0;b1;p2", "p-b");
        String before = Due.all(window);
        Due.is(text, Due.rota(window, text), Due.fault(number, place));
        Due.is("count(7)", window.count(7), 0);
        Due.same(text, Due.all(window), before);
    }

    private static void faults() {
        faulty("A", 1, 0);
        faulty("q", 1, 0);
        faulty(" a", 1, 0);
        faulty("a b", 1, 1);
        faulty("0a", 1, 0);
        faulty("1a", 1, 0);
        faulty("9", 1, 1);
        faulty("22a", 1, 1);
        faulty("2)", 1, 1);
        faulty(")", 1, 0);
        faulty("()", 1, 1);
        faulty("(2)", 1, 2);
        faulty("(a", 1, 2);
        faulty("(a(b)", 1, 5);
        faulty("(a))", 1, 3);
        faulty("a;b", 1, 1);
        faulty("(((", 5, 2);
        faulty("((a)(b(", 5, 6);
        faulty("((3(a)))", 5, 3);
        faulty("abababababab-", 6, 12);
        faulty("9a4b", 6, 2);
        faulty("9a3b-", 6, 4);
        faulty("2(7a)", 6, 0);
        faulty("a2(6b)", 6, 1);
        faulty("9a(4b)", 6, 3);
        faulty("9a(3bp)", 6, 5);
        faulty("9a(2bpp)", 6, 6);
        faulty("2(3(4a))", 6, 0);
        faulty("2(a3(4a))", 6, 3);
        faulty("(9a4a", 6, 3);
        faulty("7(2a", 1, 4);
        faulty("9a9x", 1, 3);
        faulty("c", 7, 0);
        faulty("a-3(bc)", 7, 5);
        faulty("c)", 1, 1);
        faulty("c(((", 5, 3);
        faulty("c9a9a", 6, 3);
        faulty("2cd", 7, 1);
    }

    private static void turns(String text, int due, String holders) {
        SharedWindow window = Due.street("a0;b1;p2", "ppppppppppbb");
        Due.is(text, Due.rota(window, text), due);
        for (int turn = 0; turn < 12; turn++) {
            char holder = turn < holders.length() ? holders.charAt(turn) : '-';
            Due.is(text + " rotaIs(" + turn + ")", window.rotaIs(turn), holder == '-' ? -2 : holder - 'a');
        }
    }

    private static void turns() {
        turns("a", 1, "a");
        turns("-", 1, "-");
        turns("abp-ab", 6, "abp-ab");
        turns("2(ab)", 4, "abab");
        turns("2(a2(bp)-)", 12, "abpbp-abpbp-");
        turns("9a3b", 12, "aaaaaaaaabbb");
        turns("((a))(b)", 2, "ab");
        turns("3(2(a-))", 12, "a-a-a-a-a-a-");
        turns("(a)(b)(p)(a)", 4, "abpa");
        turns("3-2p", 5, "---pp");
        turns("12a".substring(1), 2, "aa");
        turns("2(6a)", 12, "aaaaaaaaaaaa");
        turns("abpabpabpabp", 12, "abpabpabpabp");
    }

    private static void lengths() {
        SharedWindow window = Due.street("a0", "");
        Due.is("empty tape", window.rota(1), -1);
        StringBuilder text = new StringBuilder();
        for (int i = 0; i < 12; i++) {
            text.append("((a))");
        }
        Due.put(window, text + "a");
        for (int n : new int[] {0, -1, 61, 81, Integer.MIN_VALUE, Integer.MAX_VALUE}) {
            Due.is("rota(" + n + ")", window.rota(n), -1);
        }
        Due.is("count(7)", window.count(7), 80);
        Due.is("rota(60)", window.rota(60), 12);
        Due.is("count(7)", window.count(7), 0);
        Due.put(window, "aaa");
        Due.is("rota(21)", window.rota(21), -1);
        Due.is("rota(3)", window.rota(3), 3);
    }
}
