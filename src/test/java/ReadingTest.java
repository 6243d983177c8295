/** Promises 14 to 17: reads, open, most, judge. */
public final class ReadingTest {
    private static final String FOUR = "FB0abcdefghB1ijklmnopB3ababababB2zyxwvuts";

    public static void main(String[] args) {
        readings();
        opening();
        openingTies();
        mostSeen();
        judgedActs();
        judgedSights();
        judgedFaults();
        Check.finish();
    }

    private static int reads(FanBlades x, String word, int side) {
        Check.word(x, word);
        return x.reads(side);
    }

    private static void readings() {
        FanBlades x = Check.fanOf("FB0abababbaB0abbaabba", "4");
        Check.due("front row abababba: ab", reads(x, "ab", 0), 0);
        Check.due("ba", reads(x, "ba", 0), 1);
        Check.due("bb", reads(x, "bb", 0), 5);
        Check.due("abba", reads(x, "abba", 0), 4);
        Check.due("babab", reads(x, "babab", 0), 1);
        Check.due("aa", reads(x, "aa", 0), FanBlades.NONE);
        Check.due("beyond the end: bbaa", reads(x, "bbaa", 0), FanBlades.NONE);
        // from behind: a b b a | a b b a, read from place 7 down
        Check.due("behind: a", reads(x, "a", 1), 7);
        Check.due("behind: ba", reads(x, "ba", 1), 5);
        Check.due("behind: aab", reads(x, "aab", 1), 4);
        Check.due("behind: aba", reads(x, "aba", 1), FanBlades.NONE);
        Check.due("behind: beyond the first place: abbab", reads(x, "abbab", 1), FanBlades.NONE);
        Check.due("behind: abbaa", reads(x, "abbaa", 1), 7);
        Check.due("an empty word", reads(x, "", 1), 0);
        Check.due("reads(-1)", x.reads(-1), FanBlades.OUTSIDE);
        Check.due("reads(2)", x.reads(2), FanBlades.OUTSIDE);
        FanBlades lower = Check.fanOf("FB0aaaaabcd");
        Check.due("behind: lower places are next", reads(lower, "cb", 1), 2);
        Check.due("behind: not the higher ones", reads(lower, "bc", 1), FanBlades.NONE);
        Check.due("a hole parts a word", reads(Check.fanOf("FB1abcdabcd"), "ac", 0), FanBlades.NONE);
    }

    private static void open(FanBlades x, String word, int side, int steps, int figures) {
        Check.word(x, word);
        Check.due("open(" + side + ", 0) for " + word, x.open(side, 0), steps);
        Check.due("open(" + side + ", 1) for " + word, x.open(side, 1), figures);
    }

    private static void opening() {
        FanBlades x = Check.fanOf(FOUR, "12");
        open(x, "", 0, 0, 120);
        open(x, "ic", 0, 0, 120);
        open(x, "ac", 0, FanBlades.NONE, FanBlades.NONE);
        open(x, "abcd", 0, 3, 420);
        // z at place 3 over the i: one gap wider, the other folded
        open(x, "abcz", 0, 4, 300);
        Check.due("open changes nothing", x.count(4), 120);
        Check.due("open(-1, 0)", x.open(-1, 0), FanBlades.OUTSIDE);
        Check.due("open(2, 0)", x.open(2, 0), FanBlades.OUTSIDE);
        Check.due("open(0, -1)", x.open(0, -1), FanBlades.OUTSIDE);
        Check.due("open(0, 2)", x.open(0, 2), FanBlades.OUTSIDE);
        // glued blades do not part: the back of the torn one lies under the glued one
        open(x, "u", 1, FanBlades.NONE, FanBlades.NONE);
        open(x, "mh", 1, 3, 420);
        // 020, 110 and 130 each take one step
        open(x, "ahgf", 1, 1, 20);
    }

    private static void openingTies() {
        String three = "FB0aaaaaaaaB0abbbbbbbB0bbbbbbbb";
        open(Check.fanOf(three), "b", 0, 0, 0);
        open(Check.fanOf(three), "ab", 0, 1, 1);
        open(Check.fanOf(three), "aab", 0, 2, 11);
        open(Check.fanOf(three, "44"), "aab", 0, 0, 44);
        open(Check.fanOf(three, "11"), "aaab", 0, 1, 21);
        FanBlades widest = Check.fanOf("F" + "B0abcdefgh".repeat(6), "44444");
        open(widest, "", 1, 0, 44444);
        open(widest, "cdabc", 0, 0, 44444);
    }

    private static void mostSeen() {
        FanBlades x = Check.fanOf("FB0abababbaB0abbaabba", "2");
        Check.due("most(a, 0)", x.most('a', 0), 4);
        Check.due("most(a, 1)", x.most('a', 1), 3);
        Check.due("most(b, 0)", x.most('b', 0), 4);
        Check.due("most(b, 1)", x.most('b', 1), 4);
        Check.due("most(z, 0)", x.most('z', 0), 0);
        Check.due("most(z, 1)", x.most('z', 1), 0);
        Check.due("most changes nothing", x.count(4), 2);
        Check.due("most(96, 0)", x.most(96, 0), FanBlades.OUTSIDE);
        Check.due("most(123, 0)", x.most(123, 0), FanBlades.OUTSIDE);
        Check.due("most(0, 0)", x.most(0, 0), FanBlades.OUTSIDE);
        Check.due("most(97, 2)", x.most(97, 2), FanBlades.OUTSIDE);
        Check.due("most(97, -1)", x.most(97, -1), FanBlades.OUTSIDE);
        FanBlades glued = Check.fanOf("FB3aaaaaaaaB0bbbbbbbb");
        Check.due("under a glued one's next none is seen", glued.most('a', 0), 0);
        FanBlades six = Check.fanOf("F" + "B0aaaaaaaa".repeat(6));
        Check.due("six blades: most", six.most('a', 0), 24);
        Check.due("six blades: figures", six.most('a', 1), 44444);
    }

    private static void judgedActs() {
        FanBlades x = Check.fanOf(FOUR, "34");
        Check.due("spread 0, spread 0", x.judge(2, 100100), 1);
        Check.due("spread 1 at 4", x.judge(1, 101), 0);
        Check.due("fold 1, spread 1", x.judge(2, 201101), FanBlades.NONE);
        Check.due("spread a glued one", x.judge(1, 102), 0);
        Check.due("fold a glued one", x.judge(1, 202), 0);
        Check.due("spread no gap", x.judge(1, 103), 0);
        Check.due("fold no gap", x.judge(1, 209), 0);
        Check.due("snap, fold 0", x.judge(2, 400200), 1);
        Check.due("snap, fling, fold 0, fold 0", x.judge(4, 400300200200L), 3);
        Check.due("fling, spread 0", x.judge(2, 300100), 1);
        Check.due("fling, fling", x.judge(2, 300300), FanBlades.NONE);
        Check.due("nothing is changed", x.count(4), 340);
        Check.due("nothing is an act", x.count(7), 7);
    }

    private static void judgedSights() {
        FanBlades x = Check.fanOf(FOUR, "12");
        Check.word(x, "zy");
        Check.due("read from the front", x.judge(1, 500), FanBlades.NONE);
        Check.due("read from behind", x.judge(1, 501), 0);
        Check.due("from no side", x.judge(1, 502), 0);
        Check.word(x, "dz");
        Check.due("not read as it is", x.judge(1, 500), 0);
        Check.due("read when spread", x.judge(2, 100500), FanBlades.NONE);
        Check.word(x, "cz");
        Check.due("not read when snapped", x.judge(3, 500400500), 2);
        Check.word(x, "vu");
        Check.due("not read from the front, being behind", x.judge(2, 400500), 1);
        Check.word(x, "");
        Check.due("an empty word is read", x.judge(2, 500501), FanBlades.NONE);
        Check.due("an empty word from no side", x.judge(2, 500502), 1);
        Check.due("blade 0 shows 2", x.judge(1, 602), FanBlades.NONE);
        Check.due("blade 0 does not show 3", x.judge(1, 603), 0);
        Check.due("blade 1 shows 0", x.judge(1, 610), FanBlades.NONE);
        Check.due("blade 1 shows 1", x.judge(1, 611), FanBlades.NONE);
        Check.due("blade 1 does not show 2", x.judge(1, 612), 0);
        Check.due("blade 1 shows 2 when spread more", x.judge(2, 101612), FanBlades.NONE);
        Check.due("no blade 4", x.judge(1, 640), 0);
        Check.due("wide by 7", x.judge(1, 707), FanBlades.NONE);
        Check.due("not wide by 8", x.judge(1, 708), 0);
        Check.due("wide by 8 then, not by 10", x.judge(3, 100708710), 2);
        Check.due("wide by 0", x.judge(1, 700), FanBlades.NONE);
        Check.due("no fan is wide by 0", new FanBlades().judge(1, 700), FanBlades.NONE);
        Check.due("no fan is not wide by 1", new FanBlades().judge(1, 701), 0);
    }

    private static void judgedFaults() {
        FanBlades x = Check.fanOf(FOUR, "12");
        Check.due("judge(0, 0)", x.judge(0, 0), FanBlades.OUTSIDE);
        Check.due("judge(5, 0)", x.judge(5, 0), FanBlades.OUTSIDE);
        Check.due("judge(-1, 0)", x.judge(-1, 0), FanBlades.OUTSIDE);
        Check.due("judge(1, -1)", x.judge(1, -1), FanBlades.OUTSIDE);
        Check.due("judge(1, 1000)", x.judge(1, 1000), FanBlades.OUTSIDE);
        Check.due("judge(4, 10^12)", x.judge(4, 1000000000000L), FanBlades.OUTSIDE);
        Check.due("judge(4, 10^12 - 1)", x.judge(4, 999999999999L), 0);
        Check.due("kind 0", x.judge(1, 0), 0);
        Check.due("kind 0 ahead", x.judge(2, 300), 0);
        Check.due("kind 8", x.judge(1, 800), 0);
        Check.due("kind 9", x.judge(2, 300900), 1);
        for (int row : new int[] {110, 210, 310, 301, 410, 401, 510}) {
            Check.due("no such doing: " + row, x.judge(1, row), 0);
        }
    }
}
