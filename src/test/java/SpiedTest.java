/** Promises 18 to 20: spy, unspy, gaps. */
public final class SpiedTest {
    public static void main(String[] args) {
        spying();
        waysThatFit();
        glued();
        Check.finish();
    }

    private static void spying() {
        FanBlades x = new FanBlades();
        Check.due("spy(-1)", x.spy(-1, 'a', 1), FanBlades.UNKNOWN);
        Check.due("spy(28), all wrong", x.spy(28, 0, 2), FanBlades.UNKNOWN);
        Check.due("spy(96)", x.spy(0, 96, 1), FanBlades.OUTSIDE);
        Check.due("spy(123)", x.spy(0, 123, 1), FanBlades.OUTSIDE);
        Check.due("spy, seen 2", x.spy(0, 'a', 2), FanBlades.OUTSIDE);
        Check.due("spy, seen -1", x.spy(0, 'a', -1), FanBlades.OUTSIDE);
        Check.due("unspy of none", x.unspy(), 0);
        for (int i = 1; i <= 6; i++) {
            Check.due("spy " + i, x.spy(27, 'z', 0), i);
        }
        Check.due("spy, a 7th", x.spy(27, 'z', 0), FanBlades.FULL);
        Check.due("unknown goes ahead of full", x.spy(28, 'z', 0), FanBlades.UNKNOWN);
        Check.due("outside goes ahead of full", x.spy(27, 'A', 0), FanBlades.OUTSIDE);
        Check.due("count(8)", x.count(8), 6);
        Check.due("no blades: what was not seen is so", x.gaps(0), 1);
        Check.due("unspy", x.unspy(), 6);
        Check.due("count(8)", x.count(8), 0);
    }

    private static void waysThatFit() {
        FanBlades x = Check.fanOf("FB0abcdefghB0ijklmnopB0qrstuvwx", "33");
        Check.due("gaps(-1)", x.gaps(-1), FanBlades.OUTSIDE);
        Check.due("gaps(2)", x.gaps(2), FanBlades.OUTSIDE);
        Check.due("nothing spied: all ways", x.gaps(0), 25);
        Check.due("nothing spied: the first", x.gaps(1), 0);
        x.spy(1, 'i', 1);
        Check.due("i at 1: gap 0 is 1, gap 1 is not 0", x.gaps(0), 4);
        Check.due("the first", x.gaps(1), 11);
        x.spy(3, 'k', 1);
        Check.due("k at 3: gap 1 is 3 or 4", x.gaps(0), 2);
        Check.due("the first", x.gaps(1), 13);
        x.spy(4, 'q', 0);
        Check.due("q not at 4: gap 1 is 4", x.gaps(0), 1);
        Check.due("the first", x.gaps(1), 14);
        x.spy(20, 'a', 0);
        Check.due("nothing is seen there", x.gaps(0), 1);
        x.spy(20, 'a', 1);
        Check.due("no way", x.gaps(0), 0);
        Check.due("no first", x.gaps(1), FanBlades.NONE);
        Check.due("nothing is changed", x.count(4), 33);
        x.unspy();
        x.spy(0, 'a', 0);
        Check.due("a is not at 0: gap 0 is 0", x.gaps(0), 5);
        x.unspy();
        x.spy(0, 'e', 1);
        Check.due("backs are not seen", x.gaps(0), 0);
    }

    private static void glued() {
        FanBlades x = Check.fanOf("FB0abcdefghB3ijklmnopB0qrstuvwx");
        Check.due("glued: all ways", x.gaps(0), 5);
        x.spy(4, 'q', 1);
        Check.due("glued: how many", x.gaps(0), 1);
        Check.due("glued: the first", x.gaps(1), 40);
        x.spy(0, 'i', 1);
        Check.due("glued: i is never seen", x.gaps(0), 0);
        FanBlades six = Check.fanOf("F" + "B0aaaaaaaa".repeat(6));
        Check.due("six blades: all ways", six.gaps(0), 3125);
        six.spy(23, 'a', 1);
        Check.due("six blades: the last way", six.gaps(0), 1);
        Check.due("six blades: its figures", six.gaps(1), 44444);
    }
}
