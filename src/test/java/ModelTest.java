import java.util.Random;

/** Runs of calls by chance, the same ones each time, on the class and on the slow model. */
public final class ModelTest {
    private static final int RUNS = 300;
    private static final int CALLS = 380;

    private final Random chance;
    private final int run;
    private final FanBlades x = new FanBlades();
    private final SlowFan slow = new SlowFan();
    private int letters = 3;

    private ModelTest(int run) {
        this.run = run;
        this.chance = new Random(run);
    }

    public static void main(String[] args) {
        for (int run = 0; run < RUNS; run++) {
            new ModelTest(run).go();
        }
        Check.finish();
    }

    private void go() {
        letters = 1 + chance.nextInt(4);
        for (int i = 0; i < 2; i++) {
            writeFan(run % 7);
            for (int call = 0; call < CALLS / 2 - 65; call++) {
                doCall(chance.nextInt(32));
            }
        }
    }

    private void due(String call, long got, long want) {
        Check.due("run " + run + ": " + call, got, want);
    }

    private int letter() {
        return chance.nextInt(40) == 0 ? chance.nextInt(260) - 2 : 'a' + chance.nextInt(letters);
    }

    /** A number from 0 on, at times one more or less than it may be. */
    private int below(int bound) {
        return chance.nextInt(25) == 0 ? chance.nextInt(bound + 4) - 2 : chance.nextInt(bound);
    }

    private void write(int letter) {
        due("write(" + letter + ")", x.write(letter), slow.write(letter));
    }

    private void writeFan(int blades) {
        due("wipe()", x.wipe(), slow.wipe());
        write('F');
        for (int blade = 0; blade < blades; blade++) {
            write('B');
            write("0012013".charAt(chance.nextInt(7)));
            for (int i = 0; i < 8; i++) {
                write('a' + chance.nextInt(letters));
            }
            if (chance.nextInt(6) == 0) {
                due("fault()", x.fault(), slow.fault());
            }
        }
        due("fault()", x.fault(), slow.fault());
        due("fan()", x.fan(), slow.fan());
    }

    private void tellWord() {
        int n = below(6);
        long row = 0;
        for (int i = 0; i < n; i++) {
            row = 100 * row + chance.nextInt(chance.nextInt(20) == 0 ? 30 : letters);
        }
        row = chance.nextInt(30) == 0 ? row * 100 : chance.nextInt(30) == 0 ? -row : row;
        due("word(" + n + ", " + row + ")", x.word(n, row), slow.word(n, row));
    }

    private void judge() {
        int n = chance.nextInt(12) == 0 ? chance.nextInt(7) - 1 : 1 + chance.nextInt(4);
        long row = 0;
        for (int i = 0; i < n; i++) {
            int kind = 1 + chance.nextInt(7);
            int doing = kind * 100 + chance.nextInt(kind <= 2 ? 6 : kind <= 4 ? 1 : kind == 5 ? 2 : kind == 7 ? 20 : 4);
            doing += kind == 6 ? 10 * chance.nextInt(6) : 0;
            row = 1000 * row + (chance.nextInt(12) == 0 ? chance.nextInt(1000) : doing);
        }
        row = chance.nextInt(30) == 0 ? row * 1000 : chance.nextInt(30) == 0 ? -row : row;
        due("judge(" + n + ", " + row + ")", x.judge(n, row), slow.judge(n, row));
    }

    private void doCall(int which) {
        int a = below(6);
        int b = below(6);
        int bit = below(2);
        int what = below(2);
        int place = chance.nextInt(4) == 0 ? below(28) : below(12);
        boolean upper = chance.nextBoolean();
        String two = "(" + bit + ", " + what + ")";
        switch (which) {
            case 0: write(letter()); break;
            case 1: due("fault()", x.fault(), slow.fault()); break;
            case 2:
                if (chance.nextInt(8) == 0) {
                    due("fan()", x.fan(), slow.fan());
                }
                break;
            case 3: case 4: case 5: tellWord(); break;
            case 6: due("blade(" + a + ", " + b + ")", x.blade(a, b), slow.blade(a, b)); break;
            case 7: due("look" + place + two, x.look(place, bit, what), slow.look(place, bit, what)); break;
            case 8: case 9: case 10: due("spread(" + a + ")", x.spread(a), slow.spread(a)); break;
            case 11: case 12: due("fold(" + a + ")", x.fold(a), slow.fold(a)); break;
            case 13: due("fling()", x.fling(), slow.fling()); break;
            case 14:
                if (chance.nextInt(4) == 0) {
                    due("snap()", x.snap(), slow.snap());
                }
                break;
            case 15: due("undo()", x.undo(), slow.undo()); break;
            case 16: case 17: due("reads(" + bit + ")", x.reads(bit), slow.reads(bit)); break;
            case 18: judge(); break;
            case 19: case 20: {
                int letter = letter();
                due("spy(" + place + ", " + letter + ", " + bit + ")", x.spy(place, letter, bit), slow.spy(place, letter, bit));
                break;
            }
            case 21:
                if (chance.nextInt(3) == 0) {
                    due("unspy()", x.unspy(), slow.unspy());
                }
                break;
            case 22: due("rests(" + a + ", " + b + ", " + what + ")", x.rests(a, b, what), slow.rests(a, b, what)); break;
            case 23: {
                int tenths = below(11);
                due("drops(" + bit + ", " + tenths + ", " + upper + ")", x.drops(bit, tenths, upper), slow.drops(bit, tenths, upper));
                break;
            }
            case 24: {
                long v = chance.nextLong();
                due("seed(" + v + ")", x.seed(v), slow.seed(v));
                break;
            }
            case 25: {
                int m = chance.nextInt(34) - 1;
                due("years(" + m + ")", x.years(m), slow.years(m));
                break;
            }
            case 26: due("keep(" + bit + ")", x.keep(bit), slow.keep(bit)); break;
            case 27: due("again(" + bit + ")", x.again(bit), slow.again(bit)); break;
            case 28: case 29: {
                int of = below(9);
                due("count(" + of + ")", x.count(of), slow.count(of));
                break;
            }
            default: slowCall(chance.nextInt(12), a, bit, what); break;
        }
    }

    /** Calls over all ways or all orders, which take the model long. */
    private void slowCall(int which, int a, int bit, int what) {
        boolean upper = chance.nextBoolean();
        switch (which) {
            case 0: case 1: due("open(" + bit + ", " + what + ")", x.open(bit, what), slow.open(bit, what)); break;
            case 2: {
                int letter = letter();
                due("most(" + letter + ", " + what + ")", x.most(letter, what), slow.most(letter, what));
                break;
            }
            case 3: case 4: due("gaps(" + what + ")", x.gaps(what), slow.gaps(what)); break;
            case 5: due("share(" + a + ", " + upper + ")", x.share(a, upper), slow.share(a, upper)); break;
            default: due("reads(" + bit + ")", x.reads(bit), slow.reads(bit)); break;
        }
    }
}
