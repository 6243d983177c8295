/** Promises 6, 7, 8, 28: word, blade, look, count. */
public final class SightTest {
    /** Plain, pierced, glued, torn. */
    private static final String FOUR = "FB0abcdefghB1ijklmnopB3qrstuvwxB2yzabcdef";

    public static void main(String[] args) {
        words();
        bladesAsTold();
        looks();
        rowsSeen();
        lonePierced();
        counts();
        Check.finish();
    }

    private static void words() {
        FanBlades x = new FanBlades();
        Check.due("word(-1, 0)", x.word(-1, 0), FanBlades.OUTSIDE);
        Check.due("word(6, 0)", x.word(6, 0), FanBlades.OUTSIDE);
        Check.due("word(1, -1)", x.word(1, -1), FanBlades.OUTSIDE);
        Check.due("word(0, 1)", x.word(0, 1), FanBlades.OUTSIDE);
        Check.due("word(1, 26)", x.word(1, 26), FanBlades.OUTSIDE);
        Check.due("word(1, 100)", x.word(1, 100), FanBlades.OUTSIDE);
        Check.due("word(2, 2600)", x.word(2, 2600), FanBlades.OUTSIDE);
        Check.due("word(2, 10000)", x.word(2, 10000), FanBlades.OUTSIDE);
        Check.due("word(5, greatest)", x.word(5, Long.MAX_VALUE), FanBlades.OUTSIDE);
        Check.due("word(5, least)", x.word(5, Long.MIN_VALUE), FanBlades.OUTSIDE);
        Check.due("count(6)", x.count(6), 0);
        Check.due("word(5, zzzzz)", x.word(5, 2525252525L), 0);
        Check.due("count(6)", x.count(6), 5);
        Check.due("word(5, too long)", x.word(5, 10000000000L), FanBlades.OUTSIDE);
        Check.due("word(1, 25)", x.word(1, 25), 5);
        Check.due("word(2, 0)", x.word(2, 0), 1);
        Check.due("word(0, 0)", x.word(0, 0), 2);
        Check.due("word(0, 0) again", x.word(0, 0), 0);
    }

    private static void bladesAsTold() {
        FanBlades x = Check.fanOf(FOUR, "12");
        int[][] want = {
            // kind, begin, width, front, behind, gap
            {0, 0, 4, 2, 4, 1},
            {1, 1, 4, 1, 0, 2},
            {3, 3, 4, 2, 3, 0},
            {2, 3, 2, 2, 0, FanBlades.NONE},
        };
        for (int blade = 0; blade < 4; blade++) {
            for (int what = 0; what < 6; what++) {
                Check.due("blade(" + blade + ", " + what + ")", x.blade(blade, what), want[blade][what]);
            }
        }
        Check.due("blade(-1, 0)", x.blade(-1, 0), FanBlades.UNKNOWN);
        Check.due("blade(4, 0)", x.blade(4, 0), FanBlades.UNKNOWN);
        Check.due("blade(4, 9)", x.blade(4, 9), FanBlades.UNKNOWN);
        Check.due("blade(0, -1)", x.blade(0, -1), FanBlades.OUTSIDE);
        Check.due("blade(0, 6)", x.blade(0, 6), FanBlades.OUTSIDE);
    }

    private static void looks() {
        FanBlades x = Check.fanOf(FOUR);
        Check.due("look(-1, 0, 0)", x.look(-1, 0, 0), FanBlades.UNKNOWN);
        Check.due("look(28, 2, 2)", x.look(28, 2, 2), FanBlades.UNKNOWN);
        Check.due("look(27, 0, 0)", x.look(27, 0, 0), FanBlades.NONE);
        Check.due("look(27, 1, 1)", x.look(27, 1, 1), FanBlades.NONE);
        Check.due("look(0, -1, 0)", x.look(0, -1, 0), FanBlades.OUTSIDE);
        Check.due("look(0, 2, 0)", x.look(0, 2, 0), FanBlades.OUTSIDE);
        Check.due("look(0, 0, -1)", x.look(0, 0, -1), FanBlades.OUTSIDE);
        Check.due("look(0, 0, 2)", x.look(0, 0, 2), FanBlades.OUTSIDE);
    }

    private static void row(String text, String figures, int side, String letters, String blades) {
        FanBlades x = Check.fanOf(text, figures);
        for (int place = 0; place < 28; place++) {
            char letter = place < letters.length() ? letters.charAt(place) : '.';
            char blade = place < blades.length() ? blades.charAt(place) : '.';
            String call = text + " " + figures + ": look(" + place + ", " + side + ", ";
            Check.due(call + "0)", x.look(place, side, 0), letter == '.' ? FanBlades.NONE : letter);
            Check.due(call + "1)", x.look(place, side, 1), blade == '.' ? FanBlades.NONE : blade - '0');
        }
    }

    private static void rowsSeen() {
        row(FOUR, "", 0, "yzst", "3322");
        row(FOUR, "", 1, "efgh", "0000");
        row(FOUR, "12", 0, "aicyzst", "0103322");
        row(FOUR, "12", 1, "efghvwx", "0000222");
        row(FOUR, "44", 0, "abcdi.k.yzst", "00001.1.3322");
        row(FOUR, "44", 1, "efghm.o.uvwx", "00001.1.2222");
        String torn = "FB2abcdefghB2ijklmnop";
        row(torn, "1", 0, "aij", "011");
        row(torn, "1", 1, "efn", "001");
        row(torn, "4", 0, "ab..ij", "00..11");
        row("FB1abcdefghB1ijklmnop", "1", 0, "aick", "0101");
        row("FB1abcdefghB1ijklmnop", "2", 1, "e.g.o", "0.0.1");
        String six = "F" + "B0abcdefgh".repeat(6);
        row(six, "44444", 0, "abcd".repeat(6), "000011112222333344445555");
        row(six, "44444", 1, "efgh".repeat(6), "000011112222333344445555");
    }

    private static void lonePierced() {
        FanBlades x = Check.fanOf("FB1abcdefgh");
        Check.due("lone pierced: width", x.blade(0, 2), 4);
        Check.due("lone pierced: seen", x.blade(0, 3), 2);
        Check.due("lone pierced: seen from behind", x.blade(0, 4), 2);
        Check.due("lone pierced: no gap", x.blade(0, 5), FanBlades.NONE);
        Check.due("lone pierced: wide", x.count(2), 3);
        Check.due("lone pierced: places", x.count(3), 2);
    }

    private static void counts() {
        FanBlades x = Check.fanOf(FOUR, "44");
        int[] want = {41, 4, 12, 10, 440, 8, 0, 8, 0};
        for (int what = 0; what < want.length; what++) {
            Check.due("count(" + what + ")", x.count(what), want[what]);
        }
        Check.due("count(-1)", x.count(-1), FanBlades.OUTSIDE);
        Check.due("count(9)", x.count(9), FanBlades.OUTSIDE);
        x.spy(0, 'a', 0);
        Check.due("count(8)", x.count(8), 1);
        Check.word(x, "ab");
        Check.due("count(6)", x.count(6), 2);
        FanBlades one = Check.fanOf("FB2abcdefgh");
        Check.due("one blade: count(4)", one.count(4), 0);
        Check.due("one blade: count(2)", one.count(2), 2);
        FanBlades two = Check.fanOf("FB0abcdefghB2abcdefgh", "1");
        Check.due("a torn one within: count(2)", two.count(2), 4);
    }
}
