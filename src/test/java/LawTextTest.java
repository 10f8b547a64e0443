/** Promise 4: law, its texts. */
public final class LawTextTest {
    public static void main(String[] args) {
        good();
        signs();
        numbers();
        rules();
        depths();
        lengths();
        Due.end("LawTextTest");
    }

    private static void good(String text, int rules) {
        SharedWindow window = new SharedWindow();
        Due.is(text, Due.law(window, text), rules);
        Due.is(text + " count(6)", window.count(6), rules);
    }

    private static void faulty(String text, int number, int place) {
        SharedWindow window = Due.street("a0;b1;A0@0-5", "ab", "c2(1=1);j3(h=0)");
        String before = Due.all(window);
        Due.is(text, Due.law(window, text), Due.fault(number, place));
        Due.is("count(6)", window.count(6), 2);
        Due.same(text, Due.all(window), before);
    }

    private static void good() {
        good("c1(h=0)", 1);
        good("x(1=1)", 1);
        good("x(1=1);c1(1=1);j1(1=1)", 3);
        good("jh+g-s*d/n%b+k-t+w(h<1&g>1|s=1)", 1);
        good("c[1](([1]=[1]))", 1);
        good("x(!!(1=1|!2=2)&3=3)", 1);
    }

    private static void signs() {
        faulty("z", 1, 0);
        faulty("(", 1, 0);
        faulty("c", 1, 1);
        faulty("c1", 1, 2);
        faulty("c1(", 1, 3);
        faulty("c1()", 1, 3);
        faulty("c1(h", 1, 4);
        faulty("c1(h)", 1, 4);
        faulty("c1(h=", 1, 5);
        faulty("c1(h=0", 1, 6);
        faulty("c1(h=0)c", 1, 7);
        faulty("c1(h=0);", 1, 8);
        faulty("c1(h=0);q", 1, 8);
        faulty("x1(h=0)", 1, 1);
        faulty("c(h=0)", 1, 1);
        faulty("c-1(h=0)", 1, 1);
        faulty("c1 (h=0)", 1, 2);
        faulty("c1(h=0&)", 1, 7);
        faulty("c1(h=0|)", 1, 7);
        faulty("c1(&h=0)", 1, 3);
        faulty("c1(h==0)", 1, 5);
        faulty("c1(h=0=0)", 1, 6);
        faulty("c1(h!0)", 1, 4);
        faulty("c1(!)", 1, 4);
        faulty("c1((h)=0)", 1, 5);
        faulty("c1((h=0)=0)", 1, 8);
        faulty("c1((h=0)+1=0)", 1, 8);
        faulty("c1(a=0)", 1, 3);
        faulty("c1(h=x)", 1, 5);
        faulty("c[1(h=0)", 1, 3);
        faulty("c[](h=0)", 1, 2);
        faulty("c1](h=0)", 1, 2);
        faulty("c1h(h=0)", 1, 2);
        faulty("chg(h=0)", 1, 2);
        faulty("c1+(h=0)", 1, 3);
        faulty("c1*/2(h=0)", 1, 3);
        faulty("x([h=0])", 1, 4);
        faulty("x(h=0]", 1, 5);
        faulty("x((h=0)", 1, 7);
        faulty("x(h=0))", 1, 6);
        faulty("x(1+!1=1)", 1, 4);
        faulty("x" + (char) 0, 1, 1);
        faulty("c" + (char) 255, 1, 1);
    }

    private static void numbers() {
        good("c12345(h=99999)", 1);
        good("c00000(h=00001)", 1);
        faulty("c123456(h=0)", 2, 6);
        faulty("c000000", 2, 6);
        faulty("c1(h=000000)", 2, 10);
        faulty("c1(1234567", 2, 8);
    }

    private static String rules(int number) {
        StringBuilder text = new StringBuilder("x(1=1)");
        for (int i = 1; i < number; i++) {
            text.append(";x(1=1)");
        }
        return text.toString();
    }

    private static void rules() {
        good(rules(16), 16);
        faulty(rules(16) + ";x", 4, 112);
        faulty(rules(16) + ";c", 4, 112);
        faulty(rules(16) + ";j1(1=1)", 4, 112);
        faulty(rules(16) + ";y", 1, 112);
        faulty(rules(16) + ";", 1, 112);
        faulty(rules(16) + "x", 1, 111);
    }

    private static void depths() {
        good("c[[[[[[1]]]]]](1=1)", 1);
        faulty("c[[[[[[[1", 5, 7);
        good("x([[[[[1]]]]]=1)", 1);
        faulty("x([[[[[[1", 5, 7);
        good("x(!!!!!1=1)", 1);
        faulty("x(!!!!!!1=1)", 5, 7);
        good("x((((((1=1))))))", 1);
        faulty("x(((((((1", 5, 7);
        faulty("x((((((1+(", 1, 9);
        faulty("x((((((1=[1", 5, 9);
        faulty("x((((((!1=1", 5, 7);
        faulty("x(!!!!![1]=1)", 5, 7);
        faulty("x(!!!!!1=[1]", 5, 9);
        faulty("x(!!!!!(1=1))", 5, 7);
        good("x(!1=1&!1=1|!1=1&!1=1|!1=1&!1=1&!1=1)", 1);
        good("x(!!!!!1=1&!!!!!1=1&[[[[[1]]]]]=1)", 1);
        good("x(!(!(!1=1))&!!!!!1=1)", 1);
        good("c[[[[[[1]]]]]]*[[[[[[1]]]]]]((((((1=1))))))", 1);
        faulty("x(!([!", 1, 5);
    }

    private static void lengths() {
        SharedWindow window = new SharedWindow();
        Due.is("empty tape", window.law(1), -1);
        StringBuilder text = new StringBuilder("c1");
        for (int i = 0; i < 116; i++) {
            text.append("+h");
        }
        text.append("(1=1);;");
        Due.put(window, text.toString());
        for (int n : new int[] {0, -1, 241, 261, Integer.MIN_VALUE, Integer.MAX_VALUE}) {
            Due.is("law(" + n + ")", window.law(n), -1);
        }
        Due.is("count(7)", window.count(7), 260);
        Due.is("law(240)", window.law(240), Due.fault(1, 240));
        Due.is("count(7)", window.count(7), 0);
        Due.put(window, text.toString());
        Due.is("law(239)", window.law(239), 1);
        Due.put(window, "x(1=1)");
        Due.is("law(21)", window.law(21), -1);
        Due.is("count(7)", window.count(7), 20);
        Due.is("law(6)", window.law(6), 1);
    }
}
