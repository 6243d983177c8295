/** The edges that part 1 of the document's "Terms" names, sentence by sentence. */
public final class TermsTest {
    private static final int UNKNOWN = -1, STATE = -3, FULL = -4, NONE = -9;
    private static final String LETTERS = "abcdefghijklmnopqrstuvwxyz";
    private static final String SIX = "F" + "B0abcdefgh".repeat(6);

    public static void main(String[] args) {
        textOf64();
        bladesNoneOrMore();
        faultOfEachLetter();
        faultWhateverCameBehind();
        faultLengthSetAside();
        atFirst();
        widths();
        holes();
        gapsFrom0To4();
        gapsAnew();
        begins();
        seenFromBothSides();
        wide();
        glued();
        flung();
        snapped();
        wordOf0To5();
        wordChangedByNothingElse();
        readAtTheEnds();
        actsOf14();
        forgottenByEachAct();
        undoneOfEachAct();
        calls512();
        Check.finish();
    }

    /** "THE TEXT is letters (64 at most)." */
    private static void textOf64() {
        for (int letter : new int[] {0, 'F', 255}) {
            FanBlades x = new FanBlades();
            for (int length = 1; length <= 64; length++) {
                Check.due("write of letter " + length, x.write(letter), length);
                Check.due("count(0)", x.count(0), length);
            }
            Check.due("a 65th", x.write(letter), FULL);
            Check.due("a 66th", x.write(letter), FULL);
            Check.due("count(0), full", x.count(0), 64);
            Check.due("wipe(), full", x.wipe(), 64);
            Check.due("wipe(), empty", x.wipe(), 0);
            Check.due("write when wiped", x.write(letter), 1);
        }
    }

    /** "F, then BLADES, none or more (6 at most), numbered as they are told" */
    private static void bladesNoneOrMore() {
        String kinds = "031210";
        StringBuilder text = new StringBuilder("F");
        for (int size = 0; size <= 6; size++) {
            FanBlades x = new FanBlades();
            Check.write(x, text.toString());
            Check.due("fan() of " + size, x.fan(), size);
            Check.due("count(1)", x.count(1), size);
            for (int blade = 0; blade < size; blade++) {
                Check.due("kind of blade " + blade, x.blade(blade, 0), kinds.charAt(blade) - '0');
            }
            Check.due("no blade " + size, x.blade(size, 0), UNKNOWN);
            text.append('B').append(size < 6 ? kinds.charAt(size) : '0').append("abcdefgh");
        }
        FanBlades seven = new FanBlades();
        Check.write(seven, text.toString());
        Check.due("a seventh blade can not be", seven.fault(), 61);
        Check.due("fan() of seven", seven.fan(), STATE);
        Check.due("seven: no fan was made", seven.count(1), 0);
    }

    private static String mayStandAt(int place) {
        if (place == 0) {
            return "F";
        }
        if (place > 60) {
            return "";
        }
        return place % 10 == 1 ? "B" : place % 10 == 2 ? "0123" : LETTERS;
    }

    /** "FAULT: the place of the first letter by which THE TEXT can be no FAN; its length, if it is only not at its end" */
    private static void faultOfEachLetter() {
        for (int place = 0; place <= 61; place++) {
            for (int letter = 0; letter <= 255; letter++) {
                FanBlades x = new FanBlades();
                Check.write(x, SIX.substring(0, place));
                x.write(letter);
                boolean may = mayStandAt(place).indexOf(letter) >= 0;
                int want = !may ? place : place % 10 == 0 ? NONE : place + 1;
                Check.due("fault() with " + letter + " at " + place, x.fault(), want);
                Check.due("fan() with " + letter + " at " + place, x.fan(), want == NONE ? place / 10 : STATE);
            }
        }
        Check.due("fault() of an empty text", new FanBlades().fault(), 0);
        Check.due("fan() of an empty text", new FanBlades().fan(), STATE);
    }

    /** "whatever came behind it" */
    private static void faultWhateverCameBehind() {
        for (int place = 0; place <= 60; place++) {
            FanBlades x = new FanBlades();
            Check.write(x, SIX.substring(0, place) + "#" + SIX.substring(place + 1));
            Check.due("fault() at " + place + ", the rest as it should be", x.fault(), place);
            Check.write(x, SIX.substring(0, place) + "#" + SIX.substring(place));
            Check.due("fault() at " + place + ", the rest one further", x.fault(), place);
            Check.write(x, SIX.substring(0, place) + "##");
            Check.due("fault() at " + place + ", and one more fault", x.fault(), place);
        }
    }

    /** "(its length set aside)": that no more than 64 letters can come is no fault. */
    private static void faultLengthSetAside() {
        FanBlades x = new FanBlades();
        Check.write(x, SIX);
        Check.due("six blades", x.fault(), NONE);
        for (int length = 62; length <= 64; length++) {
            x.write(length == 62 ? 'B' : length == 63 ? '0' : 'a');
            Check.due("the start of a seventh", x.fault(), 61);
        }
    }

    /** "At first there are no BLADES; THE WORD is empty."; "none at first"; "0 at first" */
    private static void atFirst() {
        FanBlades x = new FanBlades();
        for (int what = 0; what <= 8; what++) {
            Check.due("at first: count(" + what + ")", x.count(what), 0);
        }
        for (int place = 0; place < 28; place++) {
            for (int side = 0; side < 2; side++) {
                Check.due("at first: the letter at " + place, x.look(place, side, 0), NONE);
                Check.due("at first: the blade at " + place, x.look(place, side, 1), NONE);
            }
        }
        Check.due("at first: blade(0, 0)", x.blade(0, 0), UNKNOWN);
        Check.due("at first: fling()", x.fling(), 0);
        Check.due("at first: snap()", x.snap(), 0);
        Check.due("at first: reads(1)", x.reads(1), 0);
        Check.due("at first: the word had", x.word(0, 0), 0);
        Check.due("at first: unspy()", x.unspy(), 0);
        Check.due("at first: again(0)", x.again(0), STATE);
        Check.due("at first: again(1)", x.again(1), STATE);
        Check.due("at first: keep(0)", x.keep(0), 0);
        Check.due("at first: seed", x.seed(9), 0);
    }

    private static void lone(int kind, int width, int seen, int wide) {
        FanBlades x = Check.fanOf("FB" + kind + "abcdefgh");
        int[] want = {kind, 0, width, seen, seen, NONE};
        for (int what = 0; what <= 5; what++) {
            Check.due("lone kind " + kind + ": blade(0, " + what + ")", x.blade(0, what), want[what]);
        }
        Check.due("lone kind " + kind + ": wide", x.count(2), wide);
        Check.due("lone kind " + kind + ": places seen", x.count(3), seen);
        Check.due("lone kind " + kind + ": no gap", x.spread(0), UNKNOWN);
    }

    /** "A BLADE is 4 CELLS wide, a TORN one 2 (its CELLS 0, 1). CELLS 1 and 3 of a PIERCED one are holes." */
    private static void widths() {
        lone(0, 4, 4, 4);
        lone(1, 4, 2, 3);
        lone(2, 2, 2, 2);
        lone(3, 4, 4, 4);
    }

    private static void rows(String text, String figures, String front, String behind) {
        FanBlades x = Check.fanOf(text, figures);
        for (int side = 0; side < 2; side++) {
            StringBuilder row = new StringBuilder();
            for (int place = 0; place < 28; place++) {
                int letter = x.look(place, side, 0);
                Check.due("a letter is of a blade", x.look(place, side, 1) == NONE ? 1 : 0, letter == NONE ? 1 : 0);
                row.append(letter == NONE ? '.' : (char) letter);
            }
            String got = row.toString().replaceAll("\\.+$", "");
            String want = side == 0 ? front : behind;
            Check.due(text + " " + figures + " side " + side + ": " + got + ", not " + want, got.equals(want) ? 1 : 0, 1);
        }
    }

    /** One sees what is below through one hole, through two, and nothing where there is nothing. */
    private static void holes() {
        rows("FB1abcdefgh", "", "a.c", "e.g");
        rows("FB0abcdefghB1ijklmnop", "0", "ibkd", "efgh");
        rows("FB1abcdefghB0ijklmnop", "0", "ijkl", "engp");
        rows("FB1abcdefghB1ijklmnop", "0", "i.k", "e.g");
        rows("FB1abcdefghB1ijklmnop", "1", "aick", "emgo");
        rows("FB0abcdefghB1ijklmnopB1qrstuvwx", "00", "qbsd", "efgh");
        rows("FB1abcdefghB1ijklmnopB0qrstuvwx", "00", "qrst", "evgx");
        rows("FB2abcdefghB1ijklmnop", "0", "ibk", "efo");
    }

    /** "(0 to 4; ...; the last BLADE has none)": each gap of six, at both ends and beyond them. */
    private static void gapsFrom0To4() {
        for (int gap = 0; gap < 5; gap++) {
            FanBlades x = Check.fanOf(SIX);
            Check.due("fold(" + gap + ") at 0", x.fold(gap), STATE);
            for (int i = 1; i <= 4; i++) {
                Check.due("spread(" + gap + ")", x.spread(gap), i);
                Check.due("blade(" + gap + ", 5)", x.blade(gap, 5), i);
            }
            Check.due("spread(" + gap + ") at 4", x.spread(gap), STATE);
            Check.due("only this gap is 4", x.count(4), 4 * (int) Math.pow(10, 4 - gap));
            for (int i = 3; i >= 0; i--) {
                Check.due("fold(" + gap + ")", x.fold(gap), i);
            }
            Check.due("fold(" + gap + ") at 0 again", x.fold(gap), STATE);
        }
        for (int size = 0; size <= 6; size++) {
            FanBlades x = Check.fanOf(SIX.substring(0, 1 + 10 * size));
            for (int gap = -1; gap <= 6; gap++) {
                boolean there = gap >= 0 && gap < size - 1;
                Check.due(size + " blades: fold(" + gap + ")", x.fold(gap), there ? STATE : UNKNOWN);
                Check.due(size + " blades: spread(" + gap + ")", x.spread(gap), there ? 1 : UNKNOWN);
            }
            if (size > 0) {
                Check.due(size + " blades: the last has no gap", x.blade(size - 1, 5), NONE);
            }
        }
    }

    /** "0 when THE FAN is made anew": of the same text, and of a shorter and a longer one. */
    private static void gapsAnew() {
        for (int size = 0; size <= 6; size++) {
            FanBlades x = Check.fanOf(SIX, "44444");
            Check.write(x, SIX.substring(0, 1 + 10 * size).replace('a', 'z'));
            x.fan();
            Check.due(size + " blades anew: figures", x.count(4), 0);
            Check.due(size + " blades anew: together", x.count(5), 0);
            Check.due(size + " blades anew: wide", x.count(2), size == 0 ? 0 : 4);
            Check.due(size + " blades anew: places", x.count(3), size == 0 ? 0 : 4);
            Check.due(size + " blades anew: seen", x.look(0, 0, 0), size == 0 ? NONE : 'z');
            Check.due(size + " blades anew: no act", x.undo(), STATE);
            Check.write(x, SIX);
            x.fan();
            Check.due("six blades again: figures", x.count(4), 0);
        }
    }

    /** "BLADE 0 begins at PLACE 0, each other one as many PLACES further than the one ahead as the GAP" */
    private static void begins() {
        String[] ways = {"00000", "44444", "10000", "00001", "04021", "12340"};
        for (String way : ways) {
            FanBlades x = Check.fanOf(SIX, way);
            int begin = 0;
            for (int blade = 0; blade < 6; blade++) {
                Check.due(way + ": blade " + blade + " begins", x.blade(blade, 1), begin);
                begin += blade < 5 ? way.charAt(blade) - '0' : 0;
            }
            Check.due(way + ": together", x.count(5), begin);
            Check.due(way + ": wide", x.count(2), begin + 4);
        }
    }

    /** "SEEN ...; NONE: there is none.", up to the last place that there can be. */
    private static void seenFromBothSides() {
        FanBlades x = Check.fanOf(SIX, "44444");
        Check.due("at 23", x.look(23, 0, 0), 'd');
        Check.due("at 23 from behind", x.look(23, 1, 0), 'h');
        Check.due("at 23, the blade", x.look(23, 1, 1), 5);
        for (int place = 24; place <= 27; place++) {
            for (int side = 0; side < 2; side++) {
                Check.due("at " + place, x.look(place, side, 0), NONE);
                Check.due("at " + place + ", the blade", x.look(place, side, 1), NONE);
            }
        }
        FanBlades folded = Check.fanOf(SIX);
        for (int blade = 0; blade < 6; blade++) {
            Check.due("folded: front of " + blade, folded.blade(blade, 3), blade == 5 ? 4 : 0);
            Check.due("folded: back of " + blade, folded.blade(blade, 4), blade == 0 ? 4 : 0);
        }
        rows("FB0abcdefghB0ijklmnop", "0", "ijkl", "efgh");
        rows("FB0abcdefghB0ijklmnop", "4", "abcdijkl", "efghmnop");
        rows("FB2abcdefghB2ijklmnop", "0", "ij", "ef");
        rows("FB2abcdefghB2ijklmnop", "2", "abij", "efmn");
        rows("FB2abcdefghB2ijklmnop", "4", "ab..ij", "ef..mn");
    }

    private static void wide(String text, String figures, int wide, int places) {
        FanBlades x = Check.fanOf(text, figures);
        Check.due(text + " " + figures + ": wide", x.count(2), wide);
        Check.due(text + " " + figures + ": places seen", x.count(3), places);
    }

    /** "WIDE is the fan by how many PLACES there are up to the last one ..., that one too (0: nothing is)." */
    private static void wide() {
        wide("F", "", 0, 0);
        wide(SIX, "44444", 24, 24);
        wide("FB0abcdefghB2abcdefgh", "0", 4, 4);
        wide("FB0abcdefghB2abcdefgh", "2", 4, 4);
        wide("FB0abcdefghB2abcdefgh", "3", 5, 5);
        wide("FB0abcdefghB2abcdefgh", "4", 6, 6);
        wide("FB0abcdefghB1abcdefgh", "1", 4, 4);
        wide("FB0abcdefghB1abcdefgh", "2", 5, 5);
        wide("FB0abcdefghB1abcdefgh", "4", 7, 6);
        wide("FB1abcdefghB2abcdefgh", "0", 3, 3);
        wide("FB2abcdefghB2abcdefgh", "4", 6, 4);
    }

    /** "Neither, if it is behind a GLUED BLADE." */
    private static void glued() {
        FanBlades x = Check.fanOf("F" + "B3abcdefgh".repeat(6));
        for (int gap = 0; gap < 5; gap++) {
            Check.due("glued: spread(" + gap + ")", x.spread(gap), STATE);
            Check.due("glued: fold(" + gap + ")", x.fold(gap), STATE);
        }
        Check.due("glued: fling()", x.fling(), 0);
        Check.due("glued: figures", x.count(4), 0);
        Check.due("glued: one way", x.gaps(0), 1);
        Check.due("glued: that way", x.gaps(1), 0);
        for (int at = 0; at < 6; at++) {
            FanBlades one = Check.fanOf("F" + "B0abcdefgh".repeat(at) + "B3abcdefgh" + "B0abcdefgh".repeat(5 - at));
            Check.due("glued at " + at + ": fling()", one.fling(), at == 5 ? 5 : 4);
            for (int gap = 0; gap < 5; gap++) {
                Check.due("glued at " + at + ": gap " + gap, one.blade(gap, 5), gap == at ? 0 : 1);
                Check.due("glued at " + at + ": spread", one.spread(gap), gap == at ? STATE : 2);
                Check.due("glued at " + at + ": fold", one.fold(gap), gap == at ? STATE : 1);
            }
        }
    }

    /** "FLUNG: all GAPS below 4 that are behind no GLUED BLADE are 1 more." */
    private static void flung() {
        FanBlades x = Check.fanOf(SIX, "01234");
        int[] more = {4, 3, 2, 1, 0, 0};
        int[] figures = {12344, 23444, 34444, 44444, 44444, 44444};
        for (int i = 0; i < more.length; i++) {
            Check.due("fling " + i, x.fling(), more[i]);
            Check.due("figures after fling " + i, x.count(4), figures[i]);
        }
        Check.due("each fling is an act", x.count(7), 14);
        Check.due("no blades: fling()", Check.fanOf("F").fling(), 0);
        Check.due("one blade: fling()", Check.fanOf("FB0abcdefgh").fling(), 0);
    }

    /** "SNAPPED: all GAPS are 0." */
    private static void snapped() {
        FanBlades x = Check.fanOf(SIX, "44444");
        Check.due("snap() of the widest", x.snap(), 20);
        Check.due("together", x.count(5), 0);
        Check.due("snap() of a folded one", x.snap(), 0);
        Check.due("undo()", x.undo(), 13);
        Check.due("undo()", x.undo(), 12);
        Check.due("as it was", x.count(4), 44444);
        Check.due("no blades: snap()", Check.fanOf("F").snap(), 0);
    }

    /** "THE WORD is 0 to 5 letters" */
    private static void wordOf0To5() {
        FanBlades x = Check.fanOf("FB0azzzzzzaB0zzzzzzzz", "4");
        long[] zs = {0, 25, 2525, 252525, 25252525, 2525252525L};
        int before = 0;
        for (int n = 0; n <= 5; n++) {
            Check.due("word of " + n + " times z", x.word(n, zs[n]), before);
            Check.due("count(6)", x.count(6), n);
            Check.due("read", x.reads(0), n == 0 ? 0 : 1);
            Check.due("word of " + n + " times a", x.word(n, 0), n);
            Check.due("read: a", x.reads(0), n <= 1 ? 0 : NONE);
            before = n;
        }
        Check.due("empty again", x.word(0, 0), 5);
        Check.due("count(6)", x.count(6), 0);
        // the letters are told from the first on
        FanBlades y = Check.fanOf("FB0abcdefghB0efghijkl", "4");
        Check.due("abcde", y.word(5, 1020304), 0);
        Check.due("abcde is read", y.reads(0), 0);
        Check.due("edcba", y.word(5, 403020100), 5);
        Check.due("edcba is not", y.reads(0), NONE);
    }

    /** "it is changed by nothing else" */
    private static void wordChangedByNothingElse() {
        FanBlades x = Check.fanOf(SIX, "4");
        Check.word(x, "abc");
        x.wipe();
        Check.due("wiped: the word", x.count(6), 3);
        Check.write(x, "FB0zabczzzz");
        x.fan();
        Check.due("a new fan: the word", x.count(6), 3);
        Check.due("a new fan: it is read there", x.reads(0), 1);
        x.keep(0);
        x.fling();
        x.again(0);
        x.undo();
        Check.due("gone on: the word", x.reads(0), 1);
    }

    private static void reads(FanBlades x, String word, int side, int want) {
        Check.word(x, word);
        Check.due("reads(" + side + ") of " + word, x.reads(side), want);
    }

    /** "if the others are at the next PLACES (from BEHIND: the next lower ones)": up to both ends. */
    private static void readAtTheEnds() {
        // front: abcd efgh x 3, behind: ijkl mnop x 3
        FanBlades x = Check.fanOf("F" + "B0abcdijklB0efghmnop".repeat(2) + "B0qrstyyyyB0uvwxyyyz", "44444");
        reads(x, "x", 0, 23);
        reads(x, "tuvwx", 0, 19);
        reads(x, "uvwxa", 0, NONE);
        reads(x, "xa", 0, NONE);
        reads(x, "abcde", 0, 0);
        reads(x, "e", 0, 4);
        reads(x, "habcd", 0, 7);
        reads(x, "z", 1, 23);
        reads(x, "zyyyy", 1, 23);
        reads(x, "mlkji", 1, 12);
        reads(x, "i", 1, 8);
        reads(x, "iz", 1, NONE);
        reads(x, "ipo", 1, 8);
        reads(x, "z", 0, NONE);
        FanBlades ends = Check.fanOf("FB0abcdefgh");
        reads(ends, "d", 0, 3);
        reads(ends, "a", 0, 0);
        reads(ends, "abcd", 0, 0);
        reads(ends, "abcda", 0, NONE);
        reads(ends, "e", 1, 0);
        reads(ends, "h", 1, 3);
        reads(ends, "hgfe", 1, 3);
        reads(ends, "hgfeh", 1, NONE);
        reads(ends, "fe", 1, 1);
        reads(ends, "ef", 1, NONE);
        FanBlades parted = Check.fanOf("FB2abcdefghB2cdabghef", "4");
        reads(parted, "bc", 0, NONE);
        reads(parted, "gf", 1, NONE);
        reads(parted, "cd", 0, 4);
        reads(parted, "hg", 1, 5);
        reads(Check.fanOf("F"), "a", 0, NONE);
        reads(Check.fanOf("F"), "", 1, 0);
    }

    /** "ACTS are a row (14 at most; of more the first one is forgotten)" */
    private static void actsOf14() {
        for (int acts = 0; acts <= 30; acts++) {
            FanBlades x = Check.fanOf("FB0abcdefghB0abcdefgh");
            int[] was = new int[acts + 1];
            for (int i = 1; i <= acts; i++) {
                // up to 4 and down again, so that the figure tells the act
                was[i] = i % 8 <= 4 ? i % 8 : 8 - i % 8;
                Check.due("act " + i, was[i] > was[i - 1] ? x.spread(0) : x.fold(0), was[i]);
                Check.due("acts in the row", x.count(7), Math.min(i, 14));
            }
            int kept = Math.min(acts, 14);
            for (int left = kept - 1; left >= 0; left--) {
                Check.due(acts + " acts: undo()", x.undo(), left);
                Check.due(acts + " acts: the gap", x.count(4), was[acts - kept + left]);
                Check.due(acts + " acts: left", x.count(7), left);
            }
            Check.due(acts + " acts: no more", x.undo(), STATE);
            Check.due(acts + " acts: the first ones stay", x.count(4), was[acts - kept]);
        }
    }

    private static void act(FanBlades x, int kind) {
        switch (kind) {
            case 0: x.spread(0); break;
            case 1: x.fold(1); break;
            case 2: x.fling(); break;
            default: x.snap(); break;
        }
    }

    /** A fifteenth act of each kind makes room for itself, and one undone makes room again. */
    private static void forgottenByEachAct() {
        for (int kind = 0; kind < 4; kind++) {
            FanBlades x = Check.fanOf("FB0abcdefghB0abcdefghB0abcdefgh", "22");
            for (int i = 0; i < 5; i++) {
                x.fold(0);
                x.spread(0);
            }
            Check.due("14 acts", x.count(7), 14);
            act(x, kind);
            Check.due("still 14", x.count(7), 14);
            Check.due("undo()", x.undo(), 13);
            Check.due("as before the 15th", x.count(4), 22);
            act(x, kind);
            Check.due("14 again", x.count(7), 14);
            for (int left = 13; left >= 0; left--) {
                Check.due("undo()", x.undo(), left);
            }
            Check.due("the first act is forgotten", x.count(4), 10);
            Check.due("undo() of none", x.undo(), STATE);
        }
    }

    /** "the last one can be undone", of each kind, also when it moved nothing. */
    private static void undoneOfEachAct() {
        String[] ways = {"22", "03", "34", "00", "44"};
        for (String way : ways) {
            for (int kind = 0; kind < 4; kind++) {
                FanBlades x = Check.fanOf("FB0abcdefghB0abcdefghB0abcdefgh", way);
                int acts = x.count(7);
                act(x, kind);
                boolean done = kind >= 2 || way.charAt(kind) != (kind == 0 ? '4' : '0');
                Check.due(way + " kind " + kind + ": acts", x.count(7), acts + (done ? 1 : 0));
                if (done) {
                    Check.due(way + " kind " + kind + ": undo()", x.undo(), acts);
                }
                Check.due(way + " kind " + kind + ": as it was", x.count(4), Integer.parseInt(way));
            }
        }
    }

    /** "An object is used for at most 512 calls": the 512th answers as the others do. */
    private static void calls512() {
        FanBlades x = new FanBlades();
        for (int call = 1; call <= 512; call++) {
            Check.due("call " + call, x.seed(call), call - 1);
        }
        FanBlades y = new FanBlades();
        for (int call = 1; call <= 510; call++) {
            y.fling();
        }
        Check.due("the 511th call", y.count(7), 14);
        Check.due("the 512th call", y.undo(), 13);
    }
}
