/** Compares answers with those that are due, and puts texts and bytes on the tape. */
final class Due {
    private static int asked = 0;
    private static int wrong = 0;

    private Due() {
    }

    static void is(String call, long got, long want) {
        asked++;
        if (got != want) {
            wrong++;
            System.out.println(call + " answered " + got + ", due is " + want);
        }
    }

    static void yes(String call, boolean got) {
        is(call, got ? 1 : 0, 1);
    }

    static void no(String call, boolean got) {
        is(call, got ? 1 : 0, 0);
    }

    /** The last line of every test's main method. */
    static void end(String test) {
        System.out.println(test + ": " + asked + " answers, " + wrong + " not as due");
        if (wrong != 0 || asked == 0) {
            System.exit(1);
        }
    }

    static int fault(int number, int place) {
        return -1000 * number - place;
    }

    /** Feeds a text, filled up to whole feeds with a sign that can stand in no text. */
    static int put(SharedWindow window, String text) {
        int[] bytes = new int[text.length()];
        for (int i = 0; i < bytes.length; i++) {
            bytes[i] = text.charAt(i);
        }
        return put(window, bytes);
    }

    static int put(SharedWindow window, int... bytes) {
        for (int start = 0; start < bytes.length; start += 20) {
            int[] five = new int[5];
            for (int i = 0; i < 20; i++) {
                int one = start + i < bytes.length ? bytes[start + i] : '~';
                five[i / 4] = five[i / 4] << 8 | one & 255;
            }
            window.feed(five[0], five[1], five[2], five[3], five[4]);
        }
        return bytes.length;
    }

    static int terrace(SharedWindow window, String text) {
        return window.terrace(put(window, text));
    }

    static int rota(SharedWindow window, String text) {
        return window.rota(put(window, text));
    }

    static int law(SharedWindow window, String text) {
        return window.law(put(window, text));
    }

    static SharedWindow street(String terrace, String rota) {
        SharedWindow window = new SharedWindow();
        if (!terrace.isEmpty()) {
            yes("terrace " + terrace, terrace(window, terrace) > 0);
        }
        if (!rota.isEmpty()) {
            yes("rota " + rota, rota(window, rota) > 0);
        }
        return window;
    }

    static SharedWindow street(String terrace, String rota, String law) {
        SharedWindow window = street(terrace, rota);
        yes("law " + law, law(window, law) > 0);
        return window;
    }

    /** All that can be asked of an object without changing it, in one text. */
    static String all(SharedWindow window) {
        StringBuilder told = new StringBuilder();
        for (int what = 0; what <= 11; what++) {
            told.append(window.count(what)).append(' ');
        }
        for (int what = 0; what <= 102; what++) {
            told.append(window.rotaIs(what)).append(' ');
        }
        for (int house = 0; house < 16; house++) {
            for (int what = 0; what <= 4; what++) {
                told.append(window.houseIs(house, what)).append(' ');
            }
            for (int turn = 0; turn < 12; turn++) {
                told.append(window.sees(house, turn)).append(' ');
            }
            told.append(window.tried(3, 10 + house)).append(' ');
        }
        for (int what = 0; what <= 3; what++) {
            told.append(window.tried(5, what)).append(' ');
        }
        return told.toString();
    }

    static void same(String call, String got, String want) {
        asked++;
        if (!got.equals(want)) {
            wrong++;
            System.out.println(call + " left " + got + ", due is " + want);
        }
    }
}
