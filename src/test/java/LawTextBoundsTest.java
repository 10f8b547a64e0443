/** Promise 4 and THE LAW as a text: each sentence that names a bound. */
public final class LawTextBoundsTest {
    private static final String DIGITS = "0123456789";
    private static final String FACTOR = DIGITS + "hgsdnbktw[";
    private static final String MORE = "+-*/%";
    private static final String TEST = FACTOR + "(!";

    public static void main(String[] args) {
        lengths();
        rules();
        signsOfRules();
        signsOfTests();
        numbers();
        brackets();
        whichIsFirst();
        faultsStay();
        replaces();
        Due.end("LawTextBoundsTest");
    }

    private static void told(String text, int rules) {
        SharedWindow window = new SharedWindow();
        Due.is(text, Due.law(window, text), rules);
        Due.is(text + " count(6)", window.count(6), rules);
    }

    private static void fault(String text, int number, int place) {
        Due.is(text, Due.law(new SharedWindow(), text), Due.fault(number, place));
    }

    private static void lengths() {
        Due.says("THE LAW: a TEXT of at most 240 bytes");
        SharedWindow window = new SharedWindow();
        String text = "c" + "h+".repeat(116) + "1(1=11)";
        Due.is("240 bytes", Due.put(window, text), 240);
        Due.is("law(240)", window.law(240), 1);
        Due.is("241 bytes", Due.put(window, "c" + "h+".repeat(116) + "1(1=111)"), 241);
        Due.is("law(241)", window.law(241), -1);
        Due.is("the tape stays", window.count(7), 260);
        Due.is("the one before stays", window.count(6), 1);
        Due.is("the first 240", window.law(240), Due.fault(1, 240));
        told("x(1=1)", 1);

        Due.says("no blanks (none at first)");
        Due.is("count(6)", new SharedWindow().count(6), 0);
        fault(" x(1=1)", 1, 0);
        fault("x (1=1)", 1, 1);
        fault("x( 1=1)", 1, 2);
        fault("x(1 =1)", 1, 3);
        fault("x(1=1 )", 1, 5);
        fault("x(1=1) ", 1, 6);
        fault("c 1(1=1)", 1, 1);
        fault("c1 2(1=1)", 1, 2);
    }

    private static String rules(int number) {
        return "x(1=1);".repeat(number - 1) + "x(1=1)";
    }

    private static void rules() {
        Due.says("RULES (16 at most) with a ; (59) between two");
        told(rules(1), 1);
        told(rules(2), 2);
        told(rules(15), 15);
        told(rules(16), 16);
        told("c1(1=1)" + ";j1(1=1);x(1=1)".repeat(7) + ";c1(1=1)", 16);
        fault(";x(1=1)", 1, 0);
        fault("x(1=1);;x(1=1)", 1, 7);
        fault("x(1=1);", 1, 7);
        fault("x(1=1):x(1=1)", 1, 6);

        Due.says("4 a 17th RULE, at its letter (if that can stand there)");
        for (int sign = 0; sign < 256; sign++) {
            fault(rules(16) + ";" + (char) sign, "cjx".indexOf(sign) >= 0 ? 4 : 1, 112);
        }
        fault(rules(16) + ";", 1, 112);
        fault(rules(16) + ";x(1=1)", 4, 112);
        fault(rules(16) + ";c123456(", 4, 112);
        fault(rules(15) + ";x(1=?);x", 1, 109);
    }

    /** Behind what stands ahead only some signs can stand, and perhaps the end. */
    private static void onlyThese(String ahead, String signs, boolean end) {
        int place = ahead.length();
        for (int sign = 0; sign < 256; sign++) {
            int got = Due.law(new SharedWindow(), ahead + (char) sign);
            Due.is(ahead + " and sign " + sign, got == Due.fault(1, place) ? 1 : 0, signs.indexOf(sign) >= 0 ? 0 : 1);
        }
        if (place > 0) {
            int got = Due.law(new SharedWindow(), ahead);
            Due.is(ahead + " and the end", got == Due.fault(1, place) ? 1 : 0, end ? 0 : 1);
        }
    }

    private static void signsOfRules() {
        Due.says("a letter, E, and (C), of x only (C)");
        onlyThese("", "cjx", false);
        onlyThese("x", "(", false);
        onlyThese("c", FACTOR, false);
        onlyThese("j", FACTOR, false);
        onlyThese("x(1=1)", ";", true);
        onlyThese("c1(1=1)", ";", true);
        onlyThese("x(1=1);", "cjx", false);

        Due.says("E: TERMS with + or - between two; a TERM: FACTORS with one of * / % between two");
        onlyThese("c1", DIGITS + MORE + "(", false);
        onlyThese("c12345", DIGITS + MORE + "(", false);
        onlyThese("ch", MORE + "(", false);
        for (int i = 0; i < MORE.length(); i++) {
            onlyThese("c1" + MORE.charAt(i), FACTOR, false);
        }
        onlyThese("j1+h", MORE + "(", false);
        onlyThese("j1*h", MORE + "(", false);

        Due.says("a FACTOR: [E], a number of one to five digits, or a letter");
        onlyThese("c[", FACTOR, false);
        onlyThese("c[1", DIGITS + MORE + "]", false);
        onlyThese("c[h", MORE + "]", false);
        onlyThese("c[h]", MORE + "(", false);
        onlyThese("c[[h]", MORE + "]", false);
        onlyThese("x([", FACTOR, false);
        for (char letter = 'a'; letter <= 'z'; letter++) {
            boolean known = "hgsdnbktw".indexOf(letter) >= 0;
            Due.is("c" + letter + "(1=1)", Due.law(new SharedWindow(), "c" + letter + "(1=1)"), known ? 1 : Due.fault(1, 1));
        }
    }

    private static void signsOfTests() {
        Due.says("C: PARTS with a | between two, one of which must hold; a PART: TESTS with an & between two, all of which must");
        onlyThese("x(", TEST, false);
        onlyThese("x(1=1", DIGITS + MORE + "&|)", false);
        onlyThese("x(1=h", MORE + "&|)", false);
        onlyThese("x(1=1&", TEST, false);
        onlyThese("x(1=1|", TEST, false);
        onlyThese("x(1=1&1=h", MORE + "&|)", false);
        onlyThese("x(1=1|1=h", MORE + "&|)", false);

        Due.says("a TEST: !TEST, (C), or E, one of < > =, and E");
        onlyThese("x(!", TEST, false);
        onlyThese("x(!!", TEST, false);
        onlyThese("x(!1=h", MORE + "&|)", false);
        onlyThese("x((", TEST, false);
        onlyThese("x((1=h", MORE + "&|)", false);
        onlyThese("x((1=h)", "&|)", false);
        onlyThese("x(!(1=h)", "&|)", false);
        onlyThese("x((1=h))", ";", true);
        onlyThese("x(1", DIGITS + MORE + "<>=", false);
        onlyThese("x(h", MORE + "<>=", false);
        onlyThese("x([h]", MORE + "<>=", false);
        for (char sign : new char[] {'<', '>', '='}) {
            onlyThese("x(1" + sign, FACTOR, false);
            told("x(1" + sign + "1)", 1);
        }
        onlyThese("x(1=[h]", MORE + "&|)", false);
    }

    private static void numbers() {
        Due.says("2 a sixth digit, at it");
        told("c1(1=1)", 1);
        told("c12345(12345=99999)", 1);
        told("c00000(00000=00000)", 1);
        for (char digit = '0'; digit <= '9'; digit++) {
            fault("c12345" + digit + "(1=1)", 2, 6);
            fault("c00000" + digit, 2, 6);
            fault("x(12345" + digit, 2, 7);
            fault("x(1=12345" + digit, 2, 9);
            fault("c[12345" + digit, 2, 7);
        }
        fault("c1234567", 2, 6);
        told("c12345+12345*12345(1=1)", 1);
    }

    private static void brackets() {
        Due.says("5 a seventh of ( [ ! that are open in one another, at it (the ( of the RULE counts; a ! is open till its TEST ends; the E of a RULE stands ahead of it)");
        // The E of a RULE stands ahead of its (: six of its own.
        told("c[[[[[[1]]]]]](1=1)", 1);
        fault("c[[[[[[[", 5, 7);
        fault("c[[[[[[[1]]]]]]](1=1)", 5, 7);
        told("c[[[[[[1]]]]]]+[[[[[[1]]]]]]((((((1=1))))))", 1);
        // Behind the ( of the RULE five more.
        told("x((((((1=1))))))", 1);
        told("x(!!!!!1=1)", 1);
        told("x([[[[[1]]]]]=[[[[[1]]]]])", 1);
        told("x(!(!([1]=1)))", 1);
        fault("x(((((((", 5, 7);
        fault("x(!!!!!!", 5, 7);
        fault("x([[[[[[", 5, 7);
        fault("x(!(!([[", 5, 7);
        fault("x(!(!(!!", 5, 7);
        fault("x(!(!(!(", 5, 7);
        fault("x(((((1=[[", 5, 9);
        told("x(((((1=[1])))))", 1);
        // A ! is open till its TEST ends, on both sides of its sign, and not beyond.
        fault("x(!!!!!1=[", 5, 9);
        fault("x(!!!!!1+[", 5, 9);
        told("x(!!!!!1=1&!!!!!1=1|!!!!!1=1)", 1);
        told("x(!!!!!1=1&[[[[[1]]]]]=1|(((((1=1))))))", 1);
        told("x(!(((1=1)))&(((((1=1))))))", 1);
        fault("x(!(1=1&!!!!", 5, 11);
        told("x(!(1=1&!!!1=1))", 1);
        // What has been closed is not open.
        told("x((1=1)&(1=1)&(1=1)&(1=1)&(1=1)&(1=1)&(1=1))", 1);
        told("c[1]+[1]+[1]+[1]+[1]+[1]+[1](1=1)", 1);
        told("c[[[[[[1]]]]]](1=1);c[[[[[[1]]]]]](1=1)", 2);
        // Where it can't stand it is no seventh one.
        fault("c[[[[[[1(", 1, 8);
        fault("x((((((1(", 1, 8);
        fault("x((((((1!", 1, 8);
        fault("x([[[[[!", 1, 7);
        fault("x([[[[[(", 1, 7);
    }

    private static void whichIsFirst() {
        Due.says("FAULTS, the first from the left: 1 what can't stand there (the end, too)");
        fault("?", 1, 0);
        fault("x(1=1);?", 1, 7);
        fault("c123456(?", 2, 6);
        fault("c?123456(", 1, 1);
        fault("c[[[[[[[123456", 5, 7);
        fault("c[[[[[[123456[", 2, 12);
        fault("x(1=1", 1, 5);
        fault("x(", 1, 2);
        fault("c", 1, 1);
    }

    private static SharedWindow busy() {
        SharedWindow window = Due.street("a0;b1;A0@0-5", "ab", "c2(1=1);j3(h=0)");
        window.days(2);
        return window;
    }

    private static void faultsStay() {
        Due.says("-1000 times its number, less its place (the one before stays)");
        String[] faulty = {"?", "c9(1=1", "c123456", rules(16) + ";x", "c[[[[[[[", "j9(1=1);x(1=1);"};
        int[] due = {-1000, -1006, -2006, -4112, -5007, -1015};
        for (int i = 0; i < faulty.length; i++) {
            SharedWindow window = busy();
            String before = Due.all(window);
            Due.is(faulty[i], Due.law(window, faulty[i]), due[i]);
            Due.is("empty then", window.count(7), 0);
            Due.same(faulty[i], Due.all(window), before);
        }
    }

    private static void replaces() {
        Due.says("in place of the one before: how many RULES");
        SharedWindow window = busy();
        int joy = window.count(9);
        Due.is("cracks", window.count(5), 8);
        Due.is("an x alone", Due.law(window, "x(1=2)"), 1);
        Due.is("count(6)", window.count(6), 1);
        Due.is("no c is left", window.tried(3, 0), 0);
        Due.is("the window stays", window.count(3), 1);
        Due.is("cracks stay", window.count(5), 8);
        Due.is("joy stays", window.count(9), joy);
        Due.is("sixteen", Due.law(window, rules(16)), 16);
        Due.is("count(6)", window.count(6), 16);
        Due.is("one", Due.law(window, "c1(1=1)"), 1);
        Due.is("count(6)", window.count(6), 1);
        Due.is("no x is left", window.tried(1, 0), 2);
        Due.is("sixteen", Due.law(window, rules(16)), 16);
        Due.is("two", Due.law(window, "c2(1=1);j1(1=1)"), 2);
        Due.is("count(6)", window.count(6), 2);
        Due.is("no x is left", window.tried(1, 0), 4);
        Due.is("a fault", Due.law(window, "x(1=1);x(1=1)?"), Due.fault(1, 13));
        for (int i = 0; i < 4; i++) {
            Due.is("a long one", Due.law(window, "x(1=2&" + "1=1&".repeat(57) + "1=1)"), 1);
        }
        Due.is("none behind a fault", Due.law(window, "c3(1=1)"), 1);
        Due.is("count(6)", window.count(6), 1);
        Due.is("no x is left", window.tried(1, 0), 6);
    }
}
