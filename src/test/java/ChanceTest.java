/** Promises 21 to 25: share, rests, drops, seed, years. */
public final class ChanceTest {
    public static void main(String[] args) {
        shares();
        restsRefused();
        restsFound();
        drops();
        dropsRefused();
        seeds();
        years();
        Check.finish();
    }

    private static void share(FanBlades x, int blade, int above, int below) {
        Check.due("share(" + blade + ", true)", x.share(blade, true), above);
        Check.due("share(" + blade + ", false)", x.share(blade, false), below);
    }

    private static void shares() {
        FanBlades x = Check.fanOf("FB0abcdefghB1ijklmnopB3qrstuvwxB2yzabcdef", "12");
        share(x, 0, 11, 4);
        share(x, 1, 3, 4);
        // place 3 is covered four times, 4 twice, 5 and 6 once
        share(x, 2, 11, 4);
        share(x, 3, 3, 4);
        share(x, -1, FanBlades.UNKNOWN, FanBlades.UNKNOWN);
        share(x, 4, FanBlades.UNKNOWN, FanBlades.UNKNOWN);
        FanBlades six = Check.fanOf("F" + "B0aaaaaaaa".repeat(6));
        share(six, 5, 2, 3);
        FanBlades five = Check.fanOf("F" + "B0aaaaaaaa".repeat(5));
        share(five, 0, 4, 5);
        FanBlades apart = Check.fanOf("FB1aaaaaaaaB1aaaaaaaa", "1");
        share(apart, 0, 2, 1);
        share(apart, 1, 2, 1);
        FanBlades torn = Check.fanOf("FB2aaaaaaaaB2aaaaaaaaB2aaaaaaaa");
        share(torn, 1, 2, 3);
    }

    private static void restsRefused() {
        FanBlades x = Check.fanOf("FB0abcdefghB0ijklmnopB0qrstuvwx");
        Check.due("rests(-1, 0, 0)", x.rests(-1, 0, 0), FanBlades.UNKNOWN);
        Check.due("rests(0, 2, 0)", x.rests(0, 2, 0), FanBlades.UNKNOWN);
        Check.due("rests(2, 2, 0)", x.rests(2, 2, 0), FanBlades.UNKNOWN);
        Check.due("rests(2, 0, 5)", x.rests(2, 0, 5), FanBlades.UNKNOWN);
        Check.due("rests(1, 1, 0)", x.rests(1, 1, 0), FanBlades.OUTSIDE);
        Check.due("rests(0, 1, 2)", x.rests(0, 1, 2), FanBlades.OUTSIDE);
        Check.due("rests(0, 1, -1)", x.rests(0, 1, -1), FanBlades.OUTSIDE);
    }

    private static void restsFound() {
        // gaps 0 0: blades show 0 0 4; 1 0: 1 0 4; 0 1: 0 1 4; 1 1: 1 1 4.
        // gap 0 has 2*b0 - b2 - c: -4, -3 | -4, -3; gap 1 has 2*b1 - b1 - c: 0, 0 | 0, 0.
        FanBlades x = Check.fanOf("FB0abcdefghB0ijklmnopB0qrstuvwx");
        Check.due("rests(0, 1, 0)", x.rests(0, 1, 0), 2);
        Check.due("rests(0, 1, 1)", x.rests(0, 1, 1), 10);
        Check.due("rests(1, 0, 0)", x.rests(1, 0, 0), 2);
        Check.due("rests(1, 0, 1)", x.rests(1, 0, 1), 1);
        Check.due("nothing is changed", x.count(4), 0);
        FanBlades wide = Check.fanOf("FB0abcdefghB0ijklmnopB0qrstuvwx", "44");
        Check.due("neither can be spread", wide.rests(0, 1, 0), 1);
        Check.due("neither can be spread: the first", wide.rests(0, 1, 1), 0);
        FanBlades glued = Check.fanOf("FB3abcdefghB0ijklmnopB0qrstuvwx");
        Check.due("a glued one does not choose 1", glued.rests(0, 1, 1), 0);
        Check.due("the other has as much either way", glued.rests(0, 1, 0), 2);
    }

    private static void drops(FanBlades x, int side, int tenths, int above, int below) {
        Check.due("drops(" + side + ", " + tenths + ", true)", x.drops(side, tenths, true), above);
        Check.due("drops(" + side + ", " + tenths + ", false)", x.drops(side, tenths, false), below);
    }

    private static void drops() {
        FanBlades x = Check.fanOf("FB0abcdefghB0ijklmnop");
        Check.word(x, "bc");
        // blade 0 must stay, blade 1 drop out
        drops(x, 0, 3, 21, 100);
        drops(x, 0, 0, 0, 1);
        drops(x, 0, 10, 0, 1);
        drops(x, 0, 5, 1, 4);
        Check.word(x, "hg");
        drops(x, 1, 3, 7, 10);
        drops(x, 1, 0, 1, 1);
        drops(x, 0, 3, 0, 1);
        Check.word(x, "");
        drops(x, 1, 7, 1, 1);
        drops(x, 0, 10, 1, 1);
        FanBlades moved = Check.fanOf("FB0abcdefghB0abcdefgh", "2");
        Check.word(moved, "cd");
        // either stays: the others are where they are, at places 2 and 4
        drops(moved, 0, 1, 99, 100);
        Check.word(moved, "ba");
        // both must stay
        drops(moved, 0, 1, 81, 100);
        FanBlades six = Check.fanOf("F" + "B0aaaaaaaa".repeat(6));
        Check.word(six, "aaaa");
        drops(six, 1, 1, 999999, 1000000);
        Check.word(six, "aaaaa");
        drops(six, 1, 1, 0, 1);
        FanBlades none = new FanBlades();
        drops(none, 0, 4, 1, 1);
        Check.word(none, "a");
        drops(none, 0, 4, 0, 1);
        Check.due("nothing is changed", x.count(1), 2);
    }

    private static void dropsRefused() {
        FanBlades x = new FanBlades();
        drops(x, -1, 4, FanBlades.OUTSIDE, FanBlades.OUTSIDE);
        drops(x, 2, 4, FanBlades.OUTSIDE, FanBlades.OUTSIDE);
        drops(x, 0, -1, FanBlades.OUTSIDE, FanBlades.OUTSIDE);
        drops(x, 0, 11, FanBlades.OUTSIDE, FanBlades.OUTSIDE);
    }

    private static void seeds() {
        FanBlades x = new FanBlades();
        Check.due("seed", x.seed(Long.MIN_VALUE), 0);
        Check.due("seed", x.seed(Long.MAX_VALUE), Long.MIN_VALUE);
        Check.due("seed", x.seed(-1), Long.MAX_VALUE);
        Check.due("seed", x.seed(0), -1);
        Check.due("years(0)", x.years(0), FanBlades.OUTSIDE);
        Check.due("years(31)", x.years(31), FanBlades.OUTSIDE);
        Check.due("years(-1)", x.years(-1), FanBlades.OUTSIDE);
        Check.due("refused years leave the seed", x.seed(0), 0);
        Check.due("years(1)", x.years(1), 0);
        Check.due("the seed after 0", x.seed(0), 1442695040888963407L);
        Check.due("years(30)", x.years(30), 0);
    }

    /** A seed that becomes the wanted number in one year, as the multiplier is odd and can be undone. */
    private static long seedBefore(long wanted) {
        long inverse = 1;
        for (int i = 0; i < 6; i++) {
            inverse *= 2 - 6364136223846793005L * inverse;
        }
        return (wanted - 1442695040888963407L) * inverse;
    }

    private static void year(String text, String figures, int chance, int wide) {
        for (long upper : new long[] {0, 0x3ffffff0L, 0x7ffffff0L}) {
            FanBlades x = Check.fanOf(text, figures);
            x.seed(seedBefore((upper + chance) << 33 | 0x1abcdef01L));
            Check.due(figures + ": a year of chance " + chance, x.years(1), wide);
            Check.due("no gap changes", x.count(4), Integer.parseInt(figures));
            Check.due("the seed", x.seed(0), (upper + chance) << 33 | 0x1abcdef01L);
        }
    }

    private static void years() {
        String six = "F" + "B0aaaaaaaa".repeat(6);
        for (int gap = 0; gap < 5; gap++) {
            year(six, "12321", gap, 14);
            year(six, "12321", 5 + gap, 12);
        }
        year(six, "40404", 0, 16);
        year(six, "40404", 1, 17);
        year(six, "40404", 5, 15);
        year(six, "40404", 6, 16);
        for (int chance = 10; chance < 14; chance++) {
            year(six, "40404", chance, 18);
        }
        year(six, "40404", 14, 4);
        year(six, "40404", 15, 4);
        String glued = "FB0aaaaaaaaB3aaaaaaaaB0aaaaaaaa";
        year(glued, "20", 1, 6);
        year(glued, "20", 6, 6);
        year(glued, "20", 2, 6);
        year(glued, "20", 9, 6);
        year(glued, "20", 10, 7);
        twoYears(six);
    }

    /** A fling makes the folded fan 9 wide, and the second year goes on from there. */
    private static void twoYears(String six) {
        int[] second = {10, 10, 10, 10, 10, 8, 8, 8, 8, 8, 14, 14, 14, 14, 4, 4};
        for (long low = 0; low < 64; low++) {
            long flung = 13L << 33 | low;
            long next = flung * 6364136223846793005L + 1442695040888963407L;
            FanBlades x = Check.fanOf(six);
            x.seed(seedBefore(flung));
            Check.due("two years", x.years(2), 9 + second[(int) ((next >>> 33) % 16)]);
            Check.due("the seed after two years", x.seed(0), next);
        }
    }
}
