/** Promises 1 to 5: a new object, write, wipe, fault, fan. */
public final class TextTest {
    private static final String BLADE = "B0abcdefgh";

    public static void main(String[] args) {
        newObject();
        writing();
        faults();
        makingTheFan();
        whatTheFanKeeps();
        Check.finish();
    }

    private static void newObject() {
        int[] counts = {0, 0, 0, 0, 0, 0, 0, 0, 0};
        FanBlades x = new FanBlades();
        for (int what = 0; what < counts.length; what++) {
            Check.due("new: count(" + what + ")", x.count(what), counts[what]);
        }
        Check.due("new: seed", x.seed(1), 0);
        Check.due("new: again", x.again(0), FanBlades.STATE);
        Check.due("new: undo", x.undo(), FanBlades.STATE);
        Check.due("new: gaps(0)", x.gaps(0), 1);
        Check.due("new: gaps(1)", x.gaps(1), 0);
        Check.due("new: open(1, 1)", x.open(1, 1), 0);
        Check.due("new: most(122, 1)", x.most(122, 1), 0);
    }

    private static void writing() {
        FanBlades x = new FanBlades();
        Check.due("write(-1)", x.write(-1), FanBlades.OUTSIDE);
        Check.due("write(256)", x.write(256), FanBlades.OUTSIDE);
        Check.due("write(least)", x.write(Integer.MIN_VALUE), FanBlades.OUTSIDE);
        Check.due("write(0)", x.write(0), 1);
        Check.due("write(255)", x.write(255), 2);
        for (int i = 3; i <= 64; i++) {
            Check.due("write, letter " + i, x.write('a'), i);
        }
        Check.due("write, the 65th", x.write('a'), FanBlades.FULL);
        Check.due("write, outside goes ahead of full", x.write(256), FanBlades.OUTSIDE);
        Check.due("count(0)", x.count(0), 64);
        Check.due("wipe", x.wipe(), 64);
        Check.due("wipe again", x.wipe(), 0);
        Check.due("count(0) when wiped", x.count(0), 0);
        Check.due("write when wiped", x.write('F'), 1);
    }

    private static void fault(String text, int want) {
        FanBlades x = new FanBlades();
        Check.write(x, text);
        Check.due("fault of " + text, x.fault(), want);
        Check.due("fault changes nothing", x.count(0), text.length());
    }

    private static void faults() {
        String six = "F" + BLADE.repeat(6);
        fault("", 0);
        fault("f", 0);
        fault("B", 0);
        fault("F", FanBlades.NONE);
        fault("FF", 1);
        fault("FB", 2);
        fault("FB3", 3);
        fault("FB4", 2);
        fault("FB/", 2);
        fault("FBa", 2);
        fault("FB0" + "az", 5);
        fault("FB0a`", 4);
        fault("FB0a{", 4);
        fault("FB0aA", 4);
        fault("FB0abcdefg", 10);
        fault("FB0abcdefg1", 10);
        fault("F" + BLADE, FanBlades.NONE);
        fault("F" + BLADE + "a", 11);
        fault("F" + BLADE + "B", 12);
        fault(six, FanBlades.NONE);
        fault(six + "B", 61);
        fault(six + "B0a", 61);
        fault("X" + six, 0);
        for (int cut = 2; cut < 61; cut++) {
            fault(six.substring(0, cut), cut % 10 == 1 ? FanBlades.NONE : cut);
        }
    }

    private static void makingTheFan() {
        FanBlades x = new FanBlades();
        Check.due("fan of an empty text", x.fan(), FanBlades.STATE);
        for (int blades = 0; blades <= 6; blades++) {
            Check.write(x, "F" + BLADE.repeat(blades));
            Check.due("fan", x.fan(), blades);
            Check.due("count(1)", x.count(1), blades);
            Check.due("the text stays", x.count(0), 1 + 10 * blades);
        }
        Check.write(x, "FB0ab");
        Check.due("fan of a text with a fault", x.fan(), FanBlades.STATE);
        Check.due("the fan stays when refused", x.count(1), 6);
        Check.write(x, "F");
        Check.due("a fan of no blades", x.fan(), 0);
        Check.due("a fan of no blades has none", x.blade(0, 0), FanBlades.UNKNOWN);
    }

    private static void whatTheFanKeeps() {
        FanBlades x = Check.fanOf("F" + BLADE.repeat(3), "21");
        Check.word(x, "abc");
        x.spy(3, 'a', 1);
        x.seed(77);
        x.keep(0);
        x.keep(1);
        Check.due("acts before", x.count(7), 3);
        x.write('B');
        Check.due("a refused fan", x.fan(), FanBlades.STATE);
        Check.due("gaps stay when refused", x.count(4), 21);
        Check.due("acts stay when refused", x.count(7), 3);
        Check.write(x, "F" + BLADE.repeat(4));
        Check.due("text alone changes no gap", x.count(4), 21);
        Check.due("fan", x.fan(), 4);
        Check.due("gaps are 0", x.count(4), 0);
        Check.due("acts are none", x.count(7), 0);
        Check.due("undo", x.undo(), FanBlades.STATE);
        Check.due("slot 0 is gone", x.again(0), FanBlades.STATE);
        Check.due("slot 1 is gone", x.again(1), FanBlades.STATE);
        Check.due("spied stays", x.count(8), 1);
        Check.due("the word stays", x.count(6), 3);
        Check.due("the word is read", x.reads(0), 0);
        Check.due("the seed stays", x.seed(0), 77);
    }
}
