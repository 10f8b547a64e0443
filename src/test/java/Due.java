import java.io.IOException;
import java.nio.file.Files;
import java.nio.file.Path;

/** Compares answers with those that are due, and puts texts and bytes on the tape. */
final class Due {
    private static int asked = 0;
    private static int wrong = 0;
    private static String document = "";
    private static String sentence = "";
    private static int askedOfSentence = 0;

    private Due() {
    }

    /** What is asked from here on is asked because of this sentence, which the document has word for word. */
    static void says(String words) {
        endSentence();
        sentence = words;
        askedOfSentence = 0;
        if (!document().contains(words)) {
            wrong("the document does not say so");
        }
    }

    private static void endSentence() {
        if (!sentence.isEmpty() && askedOfSentence == 0) {
            wrong("nothing is asked of it");
        }
    }

    private static String document() {
        if (document.isEmpty()) {
            try {
                document = Files.readString(Path.of(System.getProperty("document", "../shared/DOC.md")));
            } catch (IOException gone) {
                document = "no document: " + gone;
            }
        }
        return document;
    }

    private static void wrong(String what) {
        wrong++;
        System.out.println((sentence.isEmpty() ? "" : "[" + sentence + "] ") + what);
    }

    static void is(String call, long got, long want) {
        asked++;
        askedOfSentence++;
        if (got != want) {
            wrong(call + " answered " + got + ", due is " + want);
        }
    }

    static void yes(String call, boolean got) {
        is(call, got ? 1 : 0, 1);
    }

    static void no(String call, boolean got) {
        is(call, got ? 1 : 0, 0);
    }

    /** The last line of every test's main method. */
    static void end(String test) {
        endSentence();
        System.out.println(test + ": " + asked + " answers, " + wrong + " not as due");
        if (wrong != 0 || asked == 0) {
            System.exit(1);
        }
    }

    static int fault(int number, int place) {
        return -1000 * number - place;
    }

    /** Feeds a text, filled up to whole feeds with a sign that can stand in no text. */
    static int put(SharedWindow window, String text) {
        int[] bytes = new int[text.length()];
        for (int i = 0; i < bytes.length; i++) {
            bytes[i] = text.charAt(i);
        }
        return put(window, bytes);
    }

    static int put(SharedWindow window, int... bytes) {
        for (int start = 0; start < bytes.length; start += 20) {
            int[] five = new int[5];
            for (int i = 0; i < 20; i++) {
                int one = start + i < bytes.length ? bytes[start + i] : '~';
                five[i / 4] = five[i / 4] << 8 | one & 255;
            }
            window.feed(five[0], five[1], five[2], five[3], five[4]);
        }
        return bytes.length;
    }

    static int terrace(SharedWindow window, String text) {
        return window.terrace(put(window, text));
    }

    static int rota(SharedWindow window, String text) {
        return window.rota(put(window, text));
    }

    static int law(SharedWindow window, String text) {
        return window.law(put(window, text));
    }

    static SharedWindow street(String terrace, String rota) {
        SharedWindow window = new SharedWindow();
        if (!terrace.isEmpty()) {
            yes("terrace " + terrace, terrace(window, terrace) > 0);
        }
        if (!rota.isEmpty()) {
            yes("rota " + rota, rota(window, rota) > 0);
        }
        return window;
    }

    static SharedWindow street(String terrace, String rota, String law) {
        SharedWindow window = street(terrace, rota);
        yes("law " + law, law(window, law) > 0);
        return window;
    }

    /** Sixteen houses that face 0 and sixteen things at 0 that are to be seen in one turn. */
    static String wholeTerrace(int turn) {
        StringBuilder text = new StringBuilder();
        for (int i = 0; i < 16; i++) {
            text.append((char) ('a' + i)).append("0;");
        }
        for (int i = 0; i < 16; i++) {
            text.append((char) ('A' + i)).append("0@").append(turn).append('-').append(turn).append(';');
        }
        text.setLength(text.length() - 1);
        return text.toString();
    }

    /** All that can be asked of an object without changing it, in one text; some 350 calls at most. */
    static String all(SharedWindow window) {
        StringBuilder told = new StringBuilder();
        for (int what = 0; what <= 11; what++) {
            told.append(window.count(what)).append(' ').append(window.rotaIs(what)).append(' ');
        }
        for (int what = 100; what <= 102; what++) {
            told.append(window.rotaIs(what)).append(' ');
        }
        for (int house = 0; house < 16; house++) {
            told.append(window.seers(house)).append(' ').append(window.tried(3, 10 + house)).append(' ');
            for (int what = 0; what <= 4; what++) {
                told.append(window.houseIs(house, what)).append(' ');
            }
            boolean there = (window.count(1) >> house & 1) == 1;
            for (int turn = 0; turn < 12 && there; turn++) {
                told.append(window.sees(house, turn)).append(' ');
            }
        }
        for (int what = 0; what <= 3; what++) {
            told.append(window.tried(5, what)).append(' ');
        }
        return told.toString();
    }

    static void same(String call, String got, String want) {
        asked++;
        askedOfSentence++;
        if (!got.equals(want)) {
            wrong(call + " left " + got + ", due is " + want);
        }
    }
}
