import java.math.BigInteger;

/** The edges that parts 2 and 3 of the document's "Terms" name, and FRACTIONS, sentence by sentence. */
public final class EdgesTest {
    private static final int UNKNOWN = -1, OUTSIDE = -2, STATE = -3, FULL = -4, NONE = -9;
    private static final String SIX = "F" + "B0abcdefgh".repeat(6);
    private static final String THREE = "FB0abcdefghB0ijklmnopB0qrstuvwx";
    private static final BigInteger WRAP = BigInteger.TWO.pow(64);

    public static void main(String[] args) {
        lastNumbersTaken();
        readsFirst();
        readsEmptyWord();
        openFewest();
        openGluedAsTheyAre();
        openNone();
        mostOfLikeOnesTheLeast();
        judgedOneToFour();
        judgedActs();
        judgedSights();
        spiedSix();
        gapsOfNothingSpied();
        gapsFound();
        shareOfOneToSix();
        restsAtTheEnds();
        dropsByTenths();
        fractionsInLeastTerms();
        seedWraps();
        yearsOneToThirty();
        yearsEachIfItCanBe();
        slotsZeroToOne();
        countsOfNone();
        Check.finish();
    }

    /** Each number at the last value that it may have: none is refused. */
    private static void lastNumbersTaken() {
        FanBlades x = Check.fanOf(SIX, "44444");
        Check.due("blade(0, 0)", x.blade(0, 0), 0);
        Check.due("blade(5, 0)", x.blade(5, 0), 0);
        Check.due("blade(0, 5)", x.blade(0, 5), 4);
        Check.due("blade(5, 5)", x.blade(5, 5), NONE);
        Check.due("look(0, 0, 0)", x.look(0, 0, 0), 'a');
        Check.due("look(0, 1, 1)", x.look(0, 1, 1), 0);
        Check.due("look(27, 1, 1)", x.look(27, 1, 1), NONE);
        Check.due("most('a', 1)", x.most('a', 1), 11111);
        Check.due("most('z', 1)", x.most('z', 1), 0);
        Check.due("most('z', 0)", x.most('z', 0), 0);
        Check.due("rests(0, 4, 1)", x.rests(0, 4, 1), 0);
        Check.due("rests(4, 0, 0)", x.rests(4, 0, 0), 1);
        Check.due("share(0, true)", x.share(0, true), 4);
        Check.due("share(5, true)", x.share(5, true), 4);
        Check.due("share(5, false)", x.share(5, false), 1);
        Check.due("spy(0, 'a', 1)", x.spy(0, 'a', 1), 1);
        Check.due("spy(27, 'z', 0)", x.spy(27, 'z', 0), 2);
        Check.due("drops(1, 10, false)", x.drops(1, 10, false), 1);
        Check.due("count(8)", x.count(8), 2);
        Check.due("keep(1)", x.keep(1), 20);
        Check.due("again(1)", x.again(1), 20);
        Check.due("write(255)", x.write(255), 62);
        Check.due("write(0)", x.write(0), 63);
    }

    private static void reads(FanBlades x, String word, int front, int behind) {
        Check.word(x, word);
        Check.due("reads(0) of '" + word + "'", x.reads(0), front);
        Check.due("reads(1) of '" + word + "'", x.reads(1), behind);
    }

    /** "READS: the first PLACE (from the FRONT the least, from BEHIND the highest)" */
    private static void readsFirst() {
        FanBlades x = Check.fanOf("F" + "B0aabbbbaa".repeat(6), "44444");
        reads(x, "a", 0, 23);
        reads(x, "b", 2, 21);
        reads(x, "aa", 0, 23);
        reads(x, "bb", 2, 21);
        reads(x, "ab", 1, 22);
        reads(x, "ba", 3, 20);
        reads(x, "aabba", 0, 23);
        reads(x, "baabb", 3, 20);
        reads(x, "aaa", NONE, NONE);
        FanBlades once = Check.fanOf("FB0abcdefghB0ijklmnop", "4");
        reads(once, "l", 7, NONE);
        reads(once, "p", NONE, 7);
        reads(once, "e", NONE, 0);
        reads(once, "a", 0, NONE);
    }

    /** "THE WORD is empty: 0", whatever the fan and the side. */
    private static void readsEmptyWord() {
        for (String text : new String[] {"F", "FB0abcdefgh", SIX}) {
            FanBlades x = Check.fanOf(text, "44444");
            reads(x, "", 0, 0);
            Check.due("empty: open(0, 0)", x.open(0, 0), 0);
            Check.due("empty: open(1, 1)", x.open(1, 1), text.equals(SIX) ? 44444 : 0);
            Check.due("empty: judged from the front", x.judge(1, 500), NONE);
            Check.due("empty: judged from behind", x.judge(1, 501), NONE);
            Check.due("empty: drops, above", x.drops(0, 10, true), 1);
            Check.due("empty: drops, below", x.drops(1, 10, false), 1);
            reads(x, "z", NONE, NONE);
        }
    }

    private static void open(FanBlades x, String word, int side, int steps, int figures) {
        Check.word(x, word);
        Check.due("open(" + side + ", 0) of '" + word + "'", x.open(side, 0), steps);
        Check.due("open(" + side + ", 1) of '" + word + "'", x.open(side, 1), figures);
    }

    /** "for which SPREADS and FOLDINGS from now on are fewest, of like ones the least" */
    private static void openFewest() {
        FanBlades folded = Check.fanOf(SIX);
        open(folded, "abcd", 0, 0, 0);
        // a blade's cell a beside the next one's a: any one gap of 1
        open(folded, "aa", 0, 1, 1);
        open(folded, "aaa", 0, 2, 11);
        open(folded, "da", 0, 4, 4);
        open(folded, "dabcd", 0, 4, 4);
        FanBlades widest = Check.fanOf(SIX, "44444");
        open(widest, "da", 0, 0, 44444);
        // one gap folded by 3: as many steps for each gap, the least figures by the first
        open(widest, "aa", 0, 3, 14444);
        open(widest, "aaaaa", 0, 12, 11114);
        FanBlades between = Check.fanOf("FB0aaaaaaaaB0abbbbbbbB0bbbbbbbb", "11");
        // as many steps by less of the one gap as by more of the other
        open(between, "aaab", 0, 1, 21);
        open(between, "b", 1, 0, 11);
        FanBlades both = Check.fanOf("FB0aabbaabbB0aabbaabb", "2");
        // front aaaabb.. is of gap 2, aabaabb of 3, aabbaabb of 4, aaabb of 1
        open(both, "aaaa", 0, 0, 2);
        open(both, "abaa", 0, 1, 3);
        open(both, "bbaa", 0, 2, 4);
        open(both, "aaab", 0, 0, 2);
    }

    /** "those behind GLUED BLADES as they are" */
    private static void openGluedAsTheyAre() {
        FanBlades x = Check.fanOf("FB0abcdefghB3ijklmnopB0qrstuvwx");
        open(x, "dq", 0, 4, 40);
        open(x, "i", 0, NONE, NONE);
        open(x, "u", 1, NONE, NONE);
        open(x, "m", 1, 4, 40);
        Check.due("most i", x.most('i', 0), 0);
        Check.due("most i: figures", x.most('i', 1), 0);
        Check.due("most a", x.most('a', 0), 1);
        Check.due("most a: figures", x.most('a', 1), 10);
        Check.due("ways", x.gaps(0), 5);
        FanBlades last = Check.fanOf("FB0abcdefghB3ijklmnop");
        Check.due("a glued last blade: ways", last.gaps(0), 5);
        open(last, "di", 0, 4, 4);
    }

    /** "NONE": there is no way by which the word is read. */
    private static void openNone() {
        open(Check.fanOf("F"), "a", 0, NONE, NONE);
        open(Check.fanOf("F"), "a", 1, NONE, NONE);
        open(Check.fanOf("F"), "", 1, 0, 0);
        open(Check.fanOf("FB0abcdefgh"), "abcd", 0, 0, 0);
        open(Check.fanOf("FB0abcdefgh"), "e", 0, NONE, NONE);
        open(Check.fanOf("FB0abcdefgh"), "e", 1, 0, 0);
        open(Check.fanOf("FB1abcdefgh"), "b", 0, NONE, NONE);
        open(Check.fanOf("FB2abcdefgh"), "c", 0, NONE, NONE);
        open(Check.fanOf(SIX), "zzzzz", 0, NONE, NONE);
        open(Check.fanOf(SIX), "abcdb", 1, NONE, NONE);
    }

    private static void most(FanBlades x, int letter, int places, int figures) {
        Check.due("most(" + (char) letter + ", 0)", x.most(letter, 0), places);
        Check.due("most(" + (char) letter + ", 1)", x.most(letter, 1), figures);
    }

    /** "at most PLACES; of like ones the least" */
    private static void mostOfLikeOnesTheLeast() {
        FanBlades widest = Check.fanOf(SIX, "44444");
        most(widest, 'a', 6, 11111);
        most(widest, 'b', 6, 22222);
        most(widest, 'c', 6, 33333);
        most(widest, 'd', 6, 44444);
        most(widest, 'e', 0, 0);
        most(widest, 'z', 0, 0);
        most(Check.fanOf("F"), 'a', 0, 0);
        most(Check.fanOf("FB1abcdefgh"), 'b', 0, 0);
        most(Check.fanOf("FB1aaaaefgh"), 'a', 2, 0);
        most(Check.fanOf("F" + "B0aaaaaaaa".repeat(6)), 'a', 24, 44444);
        // torn ones leave holes between, so 2 is as good as 4
        most(Check.fanOf("FB2aaaaaaaaB2aaaaaaaa"), 'a', 4, 2);
    }

    /** "n doings (1 to 4), told as three figures each"; "(0 or more, 3 n figures at most)" */
    private static void judgedOneToFour() {
        FanBlades x = Check.fanOf(THREE);
        long flings = 0;
        long nines = 0;
        for (int n = 1; n <= 4; n++) {
            flings = 1000 * flings + 300;
            nines = 1000 * nines + 999;
            Check.due(n + " flings", x.judge(n, flings), NONE);
            Check.due(n + " times 999", x.judge(n, nines), 0);
            Check.due(n + " times 999 and 1", x.judge(n, nines + 1), OUTSIDE);
            Check.due(n + " doings, row 0", x.judge(n, 0), 0);
            Check.due(n + " doings, row -1", x.judge(n, -1), OUTSIDE);
            Check.due(n + " doings, the last is none", x.judge(n, flings - 300 + 999), n - 1);
            Check.due(n + " doings, the last can not be", x.judge(n, flings - 300 + 102), n - 1);
            Check.due(n + " doings, fewer told", x.judge(n, 300), n == 1 ? NONE : 0);
        }
        Check.due("no doing", x.judge(0, 0), OUTSIDE);
        Check.due("five doings", x.judge(5, 300300300300300L), OUTSIDE);
        Check.due("nothing was done", x.count(4), 0);
        Check.due("no act was done", x.count(7), 0);
    }

    /** Each is done on what those ahead of it left; the first that can not be is told. */
    private static void judgedActs() {
        FanBlades x = Check.fanOf(THREE, "04");
        Check.due("fold 0 at 0", x.judge(1, 200), 0);
        Check.due("spread 1 at 4", x.judge(1, 101), 0);
        Check.due("spread 0, fold 0, fold 0", x.judge(3, 100200200), 2);
        Check.due("fold 1, spread 1, spread 1", x.judge(3, 201101101), 2);
        Check.due("spread 0 four times", x.judge(4, 100100100100L), NONE);
        Check.due("snap, fold 1", x.judge(2, 400201), 1);
        Check.due("snap, spread 1", x.judge(2, 400101), NONE);
        Check.due("fling, spread 1", x.judge(2, 300101), 1);
        Check.due("fling, fold 0, fold 0", x.judge(3, 300200200), 2);
        Check.due("two that can not be: the first", x.judge(3, 100101200), 1);
        Check.due("a gap that is not there", x.judge(1, 102), 0);
        FanBlades six = Check.fanOf(SIX);
        Check.due("gap 4 of six", x.judge(1, 104), 0);
        Check.due("gap 4 of six blades", six.judge(2, 104204), NONE);
        Check.due("gap 5 of six blades", six.judge(1, 105), 0);
        FanBlades none = new FanBlades();
        Check.due("no blades: fling and snap", none.judge(2, 300400), NONE);
        Check.due("no blades: spread", none.judge(2, 300100), 1);
        Check.due("no blades: fold", none.judge(2, 400200), 1);
    }

    /** "v CELLS of it or more", "so many or more": as many are enough, one more is not. */
    private static void judgedSights() {
        FanBlades x = Check.fanOf(SIX, "01234");
        int[] seen = {0, 1, 2, 3, 4, 4};
        for (int blade = 0; blade < 6; blade++) {
            for (int v = 0; v <= 9; v++) {
                Check.due("blade " + blade + " shows " + v, x.judge(1, 600 + 10 * blade + v), v <= seen[blade] ? NONE : 0);
            }
        }
        Check.due("no blade 6 shows 0", x.judge(1, 660), 0);
        for (int wide = 0; wide <= 99; wide++) {
            Check.due("wide by " + wide, x.judge(1, 700 + wide), wide <= 14 ? NONE : 0);
            Check.due("no blades: wide by " + wide, new FanBlades().judge(1, 700 + wide), wide == 0 ? NONE : 0);
        }
        Check.due("no blades: blade 0", new FanBlades().judge(1, 600), 0);
        Check.due("widest", Check.fanOf(SIX, "44444").judge(2, 724725), 1);
        Check.word(x, "d");
        Check.due("read from the front", x.judge(1, 500), NONE);
        Check.due("read from behind", x.judge(1, 501), 0);
        Check.due("read from no side", x.judge(1, 502), 0);
    }

    /** "6 such at most, none at first" */
    private static void spiedSix() {
        FanBlades x = Check.fanOf(THREE);
        Check.due("none at first", x.count(8), 0);
        Check.due("unspy() of none", x.unspy(), 0);
        for (int round = 0; round < 2; round++) {
            for (int i = 1; i <= 6; i++) {
                Check.due("spy " + i, x.spy(i == 6 ? 1 : 27, i == 6 ? 'i' : 'a', i == 6 ? 1 : 0), i);
                Check.due("count(8)", x.count(8), i);
            }
            Check.due("the sixth counts", x.gaps(1), 11);
            Check.due("a seventh", x.spy(0, 'z', 1), FULL);
            Check.due("the seventh does not", x.gaps(0), 4);
            Check.due("unspy() of six", x.unspy(), 6);
            Check.due("nothing is left", x.count(8), 0);
            Check.due("all ways again", x.gaps(0), 25);
        }
    }

    /** Nothing SPIED is so in every way. */
    private static void gapsOfNothingSpied() {
        int ways = 1;
        for (int size = 0; size <= 6; size++) {
            FanBlades x = Check.fanOf(SIX.substring(0, 1 + 10 * size), "44444");
            ways *= size >= 2 ? 5 : 1;
            Check.due(size + " blades: ways", x.gaps(0), ways);
            Check.due(size + " blades: the first", x.gaps(1), 0);
            FanBlades glued = Check.fanOf("F" + "B3abcdefgh".repeat(size));
            Check.due(size + " glued blades: ways", glued.gaps(0), 1);
            Check.due(size + " glued blades: the first", glued.gaps(1), 0);
        }
    }

    private static FanBlades spied(String text, int... told) {
        FanBlades x = Check.fanOf(text);
        for (int i = 0; i < told.length; i += 3) {
            x.spy(told[i], told[i + 1], told[i + 2]);
        }
        return x;
    }

    private static void gaps(FanBlades x, int ways, int first) {
        Check.due("gaps(0)", x.gaps(0), ways);
        Check.due("gaps(1)", x.gaps(1), first);
    }

    /** "GAPS: how many; the first (figures, the least number); NONE." */
    private static void gapsFound() {
        gaps(spied(SIX, 23, 'd', 1), 1, 44444);
        gaps(spied(SIX, 23, 'd', 0), 3124, 0);
        gaps(spied(SIX, 24, 'd', 1), 0, NONE);
        gaps(spied(SIX, 27, 'a', 0), 3125, 0);
        gaps(spied(SIX, 0, 'a', 1), 3125, 0);
        gaps(spied(SIX, 0, 'a', 0), 0, NONE);
        gaps(spied(THREE, 0, 'a', 1, 0, 'a', 0), 0, NONE);
        gaps(spied(THREE, 0, 'a', 1, 0, 'i', 1), 0, NONE);
        gaps(spied(THREE, 4, 'i', 1), 4, 41);
        gaps(spied(THREE, 8, 'q', 1), 1, 44);
        gaps(spied(THREE, 8, 'q', 0), 24, 0);
        gaps(spied("F", 0, 'a', 1), 0, NONE);
        gaps(spied("F", 0, 'a', 0), 1, 0);
        gaps(spied("FB1abcdefgh", 1, 'b', 1), 0, NONE);
        gaps(spied("FB1abcdefgh", 1, 'b', 0, 0, 'a', 1), 1, 0);
        // from the front only, and by the way of the gaps as they are now not at all
        gaps(spied("FB0abcdefgh", 0, 'e', 1), 0, NONE);
        FanBlades spread = Check.fanOf(THREE, "44");
        spread.spy(0, 'q', 1);
        gaps(spread, 1, 0);
    }

    private static void fraction(String what, int above, int below, int wantAbove, int wantBelow) {
        Check.due(what + ", above", above, wantAbove);
        Check.due(what + ", below", below, wantBelow);
    }

    private static void share(FanBlades x, int blade, int above, int below) {
        fraction("share(" + blade + ")", x.share(blade, true), x.share(blade, false), above, below);
    }

    /** A place that c blades cover is shared by them: 1 to 6 of them. */
    private static void shareOfOneToSix() {
        int[][] plain = {{4, 1}, {2, 1}, {4, 3}, {1, 1}, {4, 5}, {2, 3}};
        int[][] torn = {{2, 1}, {1, 1}, {2, 3}, {1, 2}, {2, 5}, {1, 3}};
        for (int size = 1; size <= 6; size++) {
            for (int blade = 0; blade < size; blade++) {
                share(Check.fanOf(SIX.substring(0, 1 + 10 * size)), blade, plain[size - 1][0], plain[size - 1][1]);
                share(Check.fanOf("F" + "B2abcdefgh".repeat(size)), blade, torn[size - 1][0], torn[size - 1][1]);
                share(Check.fanOf("F" + "B1abcdefgh".repeat(size)), blade, torn[size - 1][0], torn[size - 1][1]);
            }
        }
        FanBlades widest = Check.fanOf(SIX, "44444");
        for (int blade = 0; blade < 6; blade++) {
            share(widest, blade, 4, 1);
        }
        // 1, 1/2, 1/3, 1/4 of four places
        share(Check.fanOf("F" + "B0abcdefgh".repeat(4), "111"), 0, 25, 12);
        share(Check.fanOf("F" + "B0abcdefgh".repeat(4), "111"), 3, 25, 12);
        // a pierced one and a plain one, as each is: holes cover nothing
        share(Check.fanOf("FB0abcdefghB1abcdefgh"), 0, 3, 1);
        share(Check.fanOf("FB0abcdefghB1abcdefgh"), 1, 1, 1);
        share(Check.fanOf("FB1abcdefghB1abcdefgh", "1"), 1, 2, 1);
    }

    private static void rests(FanBlades x, int one, int other, int pairs, int first) {
        Check.due("rests(" + one + ", " + other + ", 0)", x.rests(one, other, 0), pairs);
        Check.due("rests(" + one + ", " + other + ", 1)", x.rests(one, other, 1), first);
    }

    /** "each is SPREAD (1), if it can be": not at 4, nor behind a glued blade. */
    private static void restsAtTheEnds() {
        FanBlades widest = Check.fanOf(SIX, "44444");
        for (int one = 0; one < 5; one++) {
            for (int other = 0; other < 5; other++) {
                if (one != other) {
                    rests(widest, one, other, 1, 0);
                }
            }
        }
        FanBlades glued = Check.fanOf("F" + "B3abcdefgh".repeat(6));
        rests(glued, 0, 1, 1, 0);
        rests(glued, 4, 0, 1, 0);
        // gaps with a blade between them: each blade ahead shows one more, 2 for 1, so both open
        for (int size = 4; size <= 6; size++) {
            FanBlades apart = Check.fanOf(SIX.substring(0, 1 + 10 * size));
            rests(apart, 0, 2, 1, 11);
            rests(apart, 2, 0, 1, 11);
        }
        // gaps side by side: what the blade between shows more, it takes from the second as well
        FanBlades beside = Check.fanOf(THREE);
        rests(beside, 0, 1, 2, 10);
        rests(beside, 1, 0, 2, 1);
        // "by another choice alone": what gap 0 has in 00 01 10 11 is 0 2 1 3, gap 1 has 1 0 1 0
        FanBlades alone = Check.fanOf("FB0abcdefghB1abcdefghB0abcdefghB0abcdefgh", "010");
        rests(alone, 0, 1, 1, 10);
        rests(alone, 1, 0, 1, 1);
        // the one at 3 can still be spread, at 4 no more
        rests(Check.fanOf("F" + "B0abcdefgh".repeat(5), "3030"), 0, 2, 1, 11);
        rests(Check.fanOf("F" + "B0abcdefgh".repeat(5), "4030"), 0, 2, 1, 1);
        rests(Check.fanOf("F" + "B0abcdefgh".repeat(5), "3040"), 0, 2, 1, 10);
        rests(Check.fanOf("F" + "B0abcdefgh".repeat(5), "4040"), 0, 2, 1, 0);
    }

    private static void drops(FanBlades x, int side, int tenths, long above, long below) {
        long shared = BigInteger.valueOf(above).gcd(BigInteger.valueOf(below)).longValue();
        fraction("drops(" + side + ", " + tenths + ")", x.drops(side, tenths, true), x.drops(side, tenths, false),
            (int) (above / shared), (int) (below / shared));
    }

    /** "each BLADE drops out by x tenths (0 to 10), by itself, the others staying where they are" */
    private static void dropsByTenths() {
        for (int tenths = 0; tenths <= 10; tenths++) {
            long stay = 10 - tenths;
            FanBlades one = Check.fanOf("FB0abcdefgh");
            Check.word(one, "abcd");
            drops(one, 0, tenths, stay, 10);
            drops(one, 1, tenths, 0, 1);
            Check.word(one, "hgfe");
            drops(one, 1, tenths, stay, 10);
            FanBlades six = Check.fanOf(SIX, "44444");
            Check.word(six, "dabcd");
            // two neighbours must stay: what is left out are the rows without two in a row
            long[] without = {1, 0};
            for (int blade = 0; blade < 6; blade++) {
                without = new long[] {(without[0] + without[1]) * tenths, without[0] * stay};
            }
            drops(six, 0, tenths, 1000000 - without[0] - without[1], 1000000);
            FanBlades under = Check.fanOf("FB0abcdefghB0ijklmnop");
            Check.word(under, "a");
            drops(under, 0, tenths, stay * tenths, 100);
            Check.word(under, "");
            drops(under, 0, tenths, 1, 1);
            FanBlades none = new FanBlades();
            drops(none, 0, tenths, 1, 1);
            Check.word(none, "a");
            drops(none, 1, tenths, 0, 1);
        }
        // the last blade stays at its place when all ahead of it drop out
        FanBlades last = Check.fanOf(SIX.substring(0, 51) + "B0qrstuvwx", "44444");
        Check.word(last, "t");
        drops(last, 0, 9, 1, 10);
        Check.word(last, "x");
        drops(last, 1, 9, 1, 10);
    }

    /** "FRACTIONS are told above, below (1 and more), in least terms" */
    private static void fractionsInLeastTerms() {
        for (int kinds = 0; kinds < 256; kinds++) {
            StringBuilder text = new StringBuilder("F");
            for (int blade = 0; blade < 4; blade++) {
                text.append('B').append(kinds >> 2 * blade & 3).append("ababbaba");
            }
            FanBlades x = Check.fanOf(text.toString(), "" + kinds % 5 + kinds / 5 % 5 + kinds / 25 % 5);
            Check.word(x, "ab");
            for (int blade = 0; blade < 4; blade++) {
                leastTerms(x.share(blade, true), x.share(blade, false));
            }
            for (int tenths = 0; tenths <= 10; tenths++) {
                leastTerms(x.drops(kinds & 1, tenths, true), x.drops(kinds & 1, tenths, false));
            }
        }
    }

    private static void leastTerms(int above, int below) {
        Check.due("below is 1 or more: " + below, below >= 1 ? 1 : 0, 1);
        Check.due("above is not below 0: " + above, above >= 0 ? 1 : 0, 1);
        int shared = BigInteger.valueOf(above).gcd(BigInteger.valueOf(below)).intValue();
        Check.due("least terms of " + above + " / " + below, shared, 1);
    }

    private static BigInteger next(BigInteger x) {
        return x.multiply(new BigInteger("6364136223846793005")).add(new BigInteger("1442695040888963407")).mod(WRAP);
    }

    /** "x becomes x times .. and .. (64 bits, wrapping)" */
    private static void seedWraps() {
        long[] seeds = {
            0, 1, 2, -1, Long.MAX_VALUE, Long.MIN_VALUE, Long.MIN_VALUE + 1, 1L << 32, 1L << 33, -(1L << 33),
            Integer.MAX_VALUE, Integer.MIN_VALUE, 6364136223846793005L, -1442695040888963407L,
        };
        FanBlades x = new FanBlades();
        long before = 0;
        for (long seed : seeds) {
            Check.due("seed(" + seed + ")", x.seed(seed), before);
            before = seed;
        }
        for (long seed : seeds) {
            BigInteger number = BigInteger.valueOf(seed).mod(WRAP);
            x.seed(seed);
            for (int year = 0; year < 8; year++) {
                number = next(number);
                Check.due("years(1) of no blades", x.years(1), 0);
                long now = x.seed(0);
                Check.due("the seed after year " + year + " from " + seed, now, number.longValue());
                x.seed(now);
            }
        }
    }

    private static int passed(int[] gaps, int chance) {
        for (int gap = 0; gap < gaps.length; gap++) {
            boolean more = chance == gap || chance >= 10 && chance <= 13;
            gaps[gap] += more && gaps[gap] < 4 ? 1 : 0;
            gaps[gap] -= chance == gap + 5 && gaps[gap] > 0 ? 1 : 0;
            gaps[gap] = chance >= 14 ? 0 : gaps[gap];
        }
        int wide = 4;
        for (int gap : gaps) {
            wide += gap;
        }
        return wide;
    }

    /** "m times (1 to 30)": each m, from negative seeds too, and on fans of fewer gaps. */
    private static void yearsOneToThirty() {
        long[] seeds = {0, 5, -1, Long.MAX_VALUE, Long.MIN_VALUE, -77777777777L};
        for (int size = 1; size <= 6; size++) {
            for (long seed : seeds) {
                FanBlades x = Check.fanOf(SIX.substring(0, 1 + 10 * size), "42103");
                for (int m = 1; m <= 30; m++) {
                    BigInteger number = BigInteger.valueOf(seed).mod(WRAP);
                    int[] gaps = new int[size - 1];
                    for (int gap = 0; gap < gaps.length; gap++) {
                        gaps[gap] = "42103".charAt(gap) - '0';
                    }
                    int together = 0;
                    for (int year = 0; year < m; year++) {
                        number = next(number);
                        together += passed(gaps, number.shiftRight(33).mod(BigInteger.valueOf(16)).intValue());
                    }
                    x.seed(seed);
                    Check.due(size + " blades: years(" + m + ") from " + seed, x.years(m), together);
                    Check.due("the seed then", x.seed(0), number.longValue());
                }
                Check.due("no act", x.count(7), "42103".substring(0, size - 1).chars().map(c -> c - '0').sum());
            }
        }
    }

    /** "each if it can be": a year that can not be done leaves the gaps as they are, and still counts. */
    private static void yearsEachIfItCanBe() {
        FanBlades none = new FanBlades();
        FanBlades one = Check.fanOf("FB1abcdefgh");
        FanBlades glued = Check.fanOf("F" + "B3abcdefgh".repeat(6));
        for (long seed = -40; seed < 40; seed++) {
            none.seed(seed);
            one.seed(seed);
            glued.seed(seed);
            Check.due("no blades: 30 years", none.years(30), 0);
            Check.due("one pierced blade: 30 years", one.years(30), 90);
            Check.due("glued blades: 30 years", glued.years(30), 120);
        }
    }

    /** "SLOTS 0 to 1 keep GAPS (THE ROW of ACTS is empty when one goes on)." */
    private static void slotsZeroToOne() {
        FanBlades x = Check.fanOf(SIX, "44444");
        Check.due("again(0), none were kept", x.again(0), STATE);
        Check.due("keep(0), the widest", x.keep(0), 20);
        Check.due("again(1), none were kept", x.again(1), STATE);
        Check.due("the acts stay", x.count(7), 14);
        Check.due("snap()", x.snap(), 20);
        Check.due("keep(1), folded", x.keep(1), 0);
        Check.due("again(0)", x.again(0), 20);
        Check.due("figures", x.count(4), 44444);
        Check.due("no act is left", x.count(7), 0);
        Check.due("undo()", x.undo(), STATE);
        Check.due("spread(4) at 4", x.spread(4), STATE);
        Check.due("fold(4)", x.fold(4), 3);
        Check.due("again(1)", x.again(1), 0);
        Check.due("figures", x.count(4), 0);
        Check.due("undo() after again(1)", x.undo(), STATE);
        Check.due("what is kept does not change with the gaps", x.again(0), 20);
        Check.due("slot 2", x.keep(2), UNKNOWN);
        Check.due("slot -1", x.again(-1), UNKNOWN);
        x.fan();
        Check.due("a fan anew: slot 0 is gone", x.again(0), STATE);
        Check.due("a fan anew: slot 1 is gone", x.again(1), STATE);
        FanBlades bare = Check.fanOf("F");
        Check.due("no blades: keep(0)", bare.keep(0), 0);
        bare.fling();
        Check.due("no blades: again(0)", bare.again(0), 0);
        Check.due("no blades: no act is left", bare.count(7), 0);
    }

    /** "count: 4 GAPS (figures, GAP by GAP; none: 0)" and the others when there is nothing, and at their most. */
    private static void countsOfNone() {
        for (String text : new String[] {"F", "FB0abcdefgh"}) {
            FanBlades x = Check.fanOf(text);
            Check.due(text + ": count(4)", x.count(4), 0);
            Check.due(text + ": count(5)", x.count(5), 0);
            Check.due(text + ": count(7)", x.count(7), 0);
        }
        FanBlades x = Check.fanOf(SIX, "44444");
        x.word(5, 0);
        for (int i = 0; i < 6; i++) {
            x.spy(0, 'a', 1);
        }
        for (int i = 0; i < 3; i++) {
            x.write('a');
        }
        int[] most = {64, 6, 24, 24, 44444, 20, 5, 14, 6};
        for (int what = 0; what <= 8; what++) {
            Check.due("at its most: count(" + what + ")", x.count(what), most[what]);
        }
        // each count by itself, with no other look ahead of it
        Check.due("places seen of the widest", Check.fanOf(SIX, "44444").count(3), 24);
        Check.due("wide of the widest", Check.fanOf(SIX, "44444").count(2), 24);
        Check.due("places seen of none", Check.fanOf("F").count(3), 0);
        FanBlades torn = Check.fanOf("FB2abcdefghB2abcdefgh");
        for (int gap = 1; gap <= 4; gap++) {
            torn.spread(0);
            Check.due("places seen at " + gap, torn.count(3), Math.min(2 + gap, 4));
        }
        FanBlades first = Check.fanOf(SIX, "00001");
        Check.due("figures begin with noughts", first.count(4), 1);
    }
}
