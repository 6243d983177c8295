/** Promises 9 to 13, 26, 27: spread, fold, fling, snap, undo, keep, again. */
public final class ActsTest {
    private static final String FIVE = "FB0aaaaaaaaB3bbbbbbbbB1ccccccccB2ddddddddB0eeeeeeee";

    public static void main(String[] args) {
        spreading();
        folding();
        flinging();
        snapping();
        undoing();
        forgetting();
        slots();
        Check.finish();
    }

    private static void spreading() {
        FanBlades x = Check.fanOf(FIVE);
        Check.due("spread(-1)", x.spread(-1), FanBlades.UNKNOWN);
        Check.due("spread(4)", x.spread(4), FanBlades.UNKNOWN);
        Check.due("spread(1), glued", x.spread(1), FanBlades.STATE);
        for (int i = 1; i <= 4; i++) {
            Check.due("spread(3)", x.spread(3), i);
        }
        Check.due("spread(3) beyond 4", x.spread(3), FanBlades.STATE);
        Check.due("acts", x.count(7), 4);
        Check.due("figures", x.count(4), 4);
        Check.due("a glued one parts from the one ahead", x.spread(0), 1);
        Check.due("figures", x.count(4), 1004);
        Check.due("one blade has no gap", Check.fanOf("FB0aaaaaaaa").spread(0), FanBlades.UNKNOWN);
        Check.due("a last glued blade has no gap", Check.fanOf("FB3aaaaaaaa").spread(0), FanBlades.UNKNOWN);
    }

    private static void folding() {
        FanBlades x = Check.fanOf(FIVE, "2");
        Check.due("fold(-1)", x.fold(-1), FanBlades.UNKNOWN);
        Check.due("fold(4)", x.fold(4), FanBlades.UNKNOWN);
        Check.due("fold(1), glued", x.fold(1), FanBlades.STATE);
        Check.due("fold(0)", x.fold(0), 1);
        Check.due("fold(0)", x.fold(0), 0);
        Check.due("fold(0) at 0", x.fold(0), FanBlades.STATE);
        Check.due("acts", x.count(7), 4);
    }

    private static void flinging() {
        FanBlades x = Check.fanOf(FIVE, "4030");
        Check.due("fling", x.fling(), 2);
        Check.due("figures", x.count(4), 4041);
        FanBlades y = Check.fanOf(FIVE, "3000");
        int[] more = {3, 2, 2, 2, 0};
        for (int i = 0; i < more.length; i++) {
            Check.due("fling " + i, y.fling(), more[i]);
        }
        Check.due("all but the glued one are 4", y.count(4), 4044);
        Check.due("a fling that moves none is an act", y.count(7), 8);
    }

    private static void snapping() {
        FanBlades x = Check.fanOf(FIVE, "4021");
        Check.due("snap", x.snap(), 7);
        Check.due("figures", x.count(4), 0);
        Check.due("snap of a folded one", x.snap(), 0);
        Check.due("both are acts", x.count(7), 9);
    }

    private static void undoing() {
        FanBlades x = Check.fanOf(FIVE, "3");
        x.fling();
        x.fling();
        x.snap();
        x.spread(2);
        x.fold(2);
        int[] figures = {10, 0, 4022, 4011, 3000, 2000, 1000, 0};
        for (int i = 0; i < figures.length; i++) {
            Check.due("undo " + i, x.undo(), figures.length - 1 - i);
            Check.due("figures after undo " + i, x.count(4), figures[i]);
        }
        Check.due("nothing is left", x.undo(), FanBlades.STATE);
        Check.due("a refused spread", x.spread(1), FanBlades.STATE);
        Check.due("a refused fold", x.fold(0), FanBlades.STATE);
        Check.due("what is refused is no act", x.count(7), 0);
    }

    private static void forgetting() {
        FanBlades x = Check.fanOf(FIVE);
        for (int i = 0; i < 4; i++) {
            x.spread(0);
            x.spread(2);
            x.spread(3);
        }
        x.fold(0);
        x.fold(2);
        Check.due("14 acts", x.count(7), 14);
        x.fold(3);
        x.snap();
        Check.due("never more than 14", x.count(7), 14);
        for (int left = 13; left >= 0; left--) {
            Check.due("undo", x.undo(), left);
        }
        Check.due("the first two stay as they are", x.count(4), 1010);
        Check.due("they can not be undone", x.undo(), FanBlades.STATE);
    }

    private static void slots() {
        FanBlades x = Check.fanOf(FIVE, "1023");
        Check.due("keep(-1)", x.keep(-1), FanBlades.UNKNOWN);
        Check.due("keep(2)", x.keep(2), FanBlades.UNKNOWN);
        Check.due("again(-1)", x.again(-1), FanBlades.UNKNOWN);
        Check.due("again(2)", x.again(2), FanBlades.UNKNOWN);
        Check.due("again(1), not kept", x.again(1), FanBlades.STATE);
        Check.due("acts stay when refused", x.count(7), 6);
        Check.due("keep(0)", x.keep(0), 6);
        Check.due("keep is no act", x.count(7), 6);
        x.fling();
        Check.due("keep(1)", x.keep(1), 9);
        Check.due("snap", x.snap(), 9);
        Check.due("again(0)", x.again(0), 6);
        Check.due("figures", x.count(4), 1023);
        Check.due("the row of acts is empty", x.count(7), 0);
        Check.due("undo", x.undo(), FanBlades.STATE);
        x.spread(0);
        Check.due("again(1)", x.again(1), 9);
        Check.due("figures", x.count(4), 2034);
        Check.due("a slot goes on twice", x.again(0), 6);
        x.snap();
        Check.due("keep(0) over the old", x.keep(0), 0);
        x.fling();
        Check.due("again(0)", x.again(0), 0);
    }
}
