/** Compares answers with those that are due, and ends the test with exit code 1 if one differs. */
final class Check {
    private static int calls = 0;
    private static int wrong = 0;

    private Check() {
    }

    static void due(String call, long got, long want) {
        calls++;
        if (got != want) {
            wrong++;
            System.out.println(call + " answered " + got + ", due is " + want);
        }
    }

    /** Makes the text THE TEXT, letter by letter. */
    static void write(FanBlades x, String text) {
        x.wipe();
        for (int i = 0; i < text.length(); i++) {
            x.write(text.charAt(i));
        }
    }

    static FanBlades fanOf(String text) {
        FanBlades x = new FanBlades();
        write(x, text);
        x.fan();
        return x;
    }

    /** Spreads each gap as far as its figure says. */
    static FanBlades fanOf(String text, String figures) {
        FanBlades x = fanOf(text);
        for (int gap = 0; gap < figures.length(); gap++) {
            for (int i = '0'; i < figures.charAt(gap); i++) {
                x.spread(gap);
            }
        }
        return x;
    }

    static void word(FanBlades x, String letters) {
        long row = 0;
        for (int i = 0; i < letters.length(); i++) {
            row = 100 * row + (letters.charAt(i) - 'a');
        }
        x.word(letters.length(), row);
    }

    static void finish() {
        System.out.println(calls + " answers, " + wrong + " not as due");
        if (wrong != 0) {
            System.exit(1);
        }
    }
}
