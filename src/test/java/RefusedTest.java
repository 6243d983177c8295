import java.util.ArrayList;
import java.util.Arrays;
import java.util.EnumMap;
import java.util.EnumSet;
import java.util.List;
import java.util.Map;
import java.util.Set;
import java.util.TreeSet;

/**
 * "REFUSALS, of several the first that a call names" and "What is refused changes nothing": each call
 * with each number too small and too large, in four states; and what each call that is taken changes.
 */
public final class RefusedTest {
    private static final int UNKNOWN = -1, OUTSIDE = -2, STATE = -3, FULL = -4, NONE = -9;

    /** Kinds 0 1 3 2 0 1: gap 2 is behind a glued blade. */
    private static final String SIX =
        "FB0abcdefghB1ijklmnopB3ababababB2zyxwvutsB0cdcdefefB1qrstuvwx";

    private enum State {
        NEW, BARE, RICH, FILLED
    }

    private static final Set<State> EVERY = EnumSet.allOf(State.class);
    private static final Set<State> NO_BLADES = EnumSet.of(State.NEW, State.BARE);
    private static final Set<State> SIX_BLADES = EnumSet.of(State.RICH, State.FILLED);

    private interface Call {
        long on(FanBlades x);
    }

    private static final class Refused {
        final Set<State> states;
        final String name;
        final Call call;
        final long due;

        Refused(Set<State> states, String name, Call call, long due) {
            this.states = states;
            this.name = name;
            this.call = call;
            this.due = due;
        }
    }

    private static final List<Refused> ALL = new ArrayList<>();

    public static void main(String[] args) {
        ofTheFan();
        ofLooks();
        ofActs();
        ofReading();
        ofSpied();
        ofRests();
        ofChances();
        ofSlots();
        nothingChanges();
        whatChanges();
        Check.finish();
    }

    // ---- the states

    private static FanBlades make(State state) {
        FanBlades x = new FanBlades();
        if (state == State.BARE) {
            Check.write(x, "F");
            x.fan();
        }
        if (state == State.RICH) {
            makeRich(x);
        }
        if (state == State.FILLED) {
            makeFilled(x);
        }
        return x;
    }

    /** A bit of everything; slot 1 is not kept, gap 4 is 0, and the text is another fan. */
    private static void makeRich(FanBlades x) {
        Check.write(x, SIX);
        x.fan();
        Check.word(x, "ic");
        x.seed(77);
        x.spread(0);
        x.spread(1);
        x.keep(0);
        x.fling();
        x.fold(4);
        x.spy(0, 'a', 1);
        x.spy(1, 'q', 0);
        Check.write(x, "FB2abcdefgh");
    }

    /** All that can be full: gaps of 4, 14 acts, 6 spied, both slots, 5 letters, a text of 64. */
    private static void makeFilled(FanBlades x) {
        Check.write(x, SIX);
        x.fan();
        x.keep(1);
        for (int i = 0; i < 13; i++) {
            x.fling();
            if (i == 6) {
                x.snap();
                x.keep(0);
            }
        }
        Check.word(x, "abcde");
        x.seed(-5);
        for (int i = 0; i < 5; i++) {
            x.spy(i, 'a', 0);
        }
        x.spy(1, 'b', 1);
        x.write('B');
        x.write(0);
        x.write(255);
    }

    // ---- the refused calls

    private static void refuse(Set<State> states, String name, Call call, long due) {
        ALL.add(new Refused(states, name, call, due));
    }

    /** Just beyond both ends, and as far as numbers go. */
    private static int[] beyond(int low, int high) {
        return new int[] {low - 1, high + 1, Integer.MIN_VALUE, Integer.MAX_VALUE};
    }

    private static long tenTo(int figures) {
        return Long.parseLong("1" + "0".repeat(figures));
    }

    private static void ofTheFan() {
        for (int letter : beyond(0, 255)) {
            refuse(EVERY, "write(" + letter + ")", x -> x.write(letter), OUTSIDE);
        }
        for (int letter : new int[] {0, 'a', 255}) {
            refuse(EnumSet.of(State.FILLED), "write(" + letter + ")", x -> x.write(letter), FULL);
        }
        refuse(EnumSet.of(State.NEW, State.FILLED), "fan()", x -> x.fan(), STATE);
        for (int n : beyond(0, 5)) {
            refuse(EVERY, "word(" + n + ", 0)", x -> x.word(n, 0), OUTSIDE);
        }
        for (int n = 0; n <= 5; n++) {
            refuseRows(n, -1, Long.MIN_VALUE, tenTo(2 * n), Long.MAX_VALUE, -tenTo(2 * n), tenTo(2 * n) * 25);
            for (int place = 0; place < n; place++) {
                refuseRows(n, 26 * tenTo(2 * place), 99 * tenTo(2 * place));
            }
        }
    }

    private static void refuseRows(int n, long... rows) {
        for (long row : rows) {
            refuse(EVERY, "word(" + n + ", " + row + ")", x -> x.word(n, row), OUTSIDE);
        }
    }

    private static void ofLooks() {
        for (int bad : beyond(0, 5)) {
            for (int what : new int[] {0, 5, 6, -1}) {
                refuse(EVERY, "blade(" + bad + ", " + what + ")", x -> x.blade(bad, what), UNKNOWN);
            }
            for (int blade = 0; blade <= 5; blade++) {
                int one = blade;
                refuse(SIX_BLADES, "blade(" + one + ", " + bad + ")", x -> x.blade(one, bad), OUTSIDE);
            }
        }
        for (int what : new int[] {0, 5, 6, -1}) {
            refuse(NO_BLADES, "blade(0, " + what + ")", x -> x.blade(0, what), UNKNOWN);
        }
        for (int place : beyond(0, 27)) {
            for (int side = -1; side <= 2; side++) {
                int from = side;
                refuse(EVERY, "look(" + place + ", " + from + ", 0)", x -> x.look(place, from, 0), UNKNOWN);
                refuse(EVERY, "look(" + place + ", " + from + ", 2)", x -> x.look(place, from, 2), UNKNOWN);
            }
        }
        for (int bad : beyond(0, 1)) {
            for (int place : new int[] {0, 27}) {
                refuse(EVERY, "look(" + place + ", " + bad + ", 0)", x -> x.look(place, bad, 0), OUTSIDE);
                refuse(EVERY, "look(" + place + ", 1, " + bad + ")", x -> x.look(place, 1, bad), OUTSIDE);
                refuse(EVERY, "look(" + place + ", " + bad + ", " + bad + ")", x -> x.look(place, bad, bad), OUTSIDE);
            }
        }
        for (int what : beyond(0, 8)) {
            refuse(EVERY, "count(" + what + ")", x -> x.count(what), OUTSIDE);
        }
    }

    private static void ofActs() {
        for (int gap : beyond(0, 4)) {
            refuse(EVERY, "spread(" + gap + ")", x -> x.spread(gap), UNKNOWN);
            refuse(EVERY, "fold(" + gap + ")", x -> x.fold(gap), UNKNOWN);
        }
        refuse(NO_BLADES, "spread(0), no blades", x -> x.spread(0), UNKNOWN);
        refuse(NO_BLADES, "fold(0), no blades", x -> x.fold(0), UNKNOWN);
        refuse(SIX_BLADES, "spread(2), glued", x -> x.spread(2), STATE);
        refuse(SIX_BLADES, "fold(2), glued", x -> x.fold(2), STATE);
        for (int gap : new int[] {0, 1, 3, 4}) {
            refuse(EnumSet.of(State.FILLED), "spread(" + gap + ") at 4", x -> x.spread(gap), STATE);
        }
        refuse(EnumSet.of(State.RICH), "fold(4) at 0", x -> x.fold(4), STATE);
        refuse(NO_BLADES, "undo()", x -> x.undo(), STATE);
    }

    private static void ofReading() {
        for (int bad : beyond(0, 1)) {
            refuse(EVERY, "reads(" + bad + ")", x -> x.reads(bad), OUTSIDE);
            refuse(EVERY, "open(" + bad + ", 0)", x -> x.open(bad, 0), OUTSIDE);
            refuse(EVERY, "open(1, " + bad + ")", x -> x.open(1, bad), OUTSIDE);
            refuse(EVERY, "most('a', " + bad + ")", x -> x.most('a', bad), OUTSIDE);
        }
        for (int letter : new int[] {'a' - 1, 'z' + 1, 'A', 'Z', 0, 25, 'a' + 256, Integer.MIN_VALUE, Integer.MAX_VALUE}) {
            refuse(EVERY, "most(" + letter + ", 0)", x -> x.most(letter, 0), OUTSIDE);
        }
        for (int n : beyond(1, 4)) {
            refuse(EVERY, "judge(" + n + ", 0)", x -> x.judge(n, 0), OUTSIDE);
            refuse(EVERY, "judge(" + n + ", 300)", x -> x.judge(n, 300), OUTSIDE);
        }
        for (int n = 1; n <= 4; n++) {
            int doings = n;
            for (long row : new long[] {-1, -300, Long.MIN_VALUE, tenTo(3 * n), Long.MAX_VALUE}) {
                refuse(EVERY, "judge(" + n + ", " + row + ")", x -> x.judge(doings, row), OUTSIDE);
            }
        }
    }

    private static void ofSpied() {
        int[] noLetters = {'a' - 1, 'z' + 1, 'A', 0, 25, Integer.MIN_VALUE, Integer.MAX_VALUE};
        for (int place : beyond(0, 27)) {
            refuse(EVERY, "spy(" + place + ", 'a', 1)", x -> x.spy(place, 'a', 1), UNKNOWN);
            refuse(EVERY, "spy(" + place + ", 'A', 1)", x -> x.spy(place, 'A', 1), UNKNOWN);
            refuse(EVERY, "spy(" + place + ", 'a', 2)", x -> x.spy(place, 'a', 2), UNKNOWN);
        }
        for (int letter : noLetters) {
            refuse(EVERY, "spy(0, " + letter + ", 1)", x -> x.spy(0, letter, 1), OUTSIDE);
            refuse(EVERY, "spy(27, " + letter + ", 2)", x -> x.spy(27, letter, 2), OUTSIDE);
        }
        for (int seen : beyond(0, 1)) {
            refuse(EVERY, "spy(0, 'a', " + seen + ")", x -> x.spy(0, 'a', seen), OUTSIDE);
        }
        refuse(EnumSet.of(State.FILLED), "spy(0, 'a', 0), a seventh", x -> x.spy(0, 'a', 0), FULL);
        refuse(EnumSet.of(State.FILLED), "spy(27, 'z', 1), a seventh", x -> x.spy(27, 'z', 1), FULL);
        for (int what : beyond(0, 1)) {
            refuse(EVERY, "gaps(" + what + ")", x -> x.gaps(what), OUTSIDE);
        }
    }

    private static void ofRests() {
        for (int bad : beyond(0, 4)) {
            for (int what : new int[] {0, 1, 2}) {
                refuse(EVERY, "rests(" + bad + ", 0, " + what + ")", x -> x.rests(bad, 0, what), UNKNOWN);
                refuse(EVERY, "rests(0, " + bad + ", " + what + ")", x -> x.rests(0, bad, what), UNKNOWN);
                refuse(EVERY, "rests twice " + bad + ", " + what, x -> x.rests(bad, bad, what), UNKNOWN);
            }
        }
        refuse(NO_BLADES, "rests(0, 1, 0)", x -> x.rests(0, 1, 0), UNKNOWN);
        refuse(NO_BLADES, "rests(0, 0, 2)", x -> x.rests(0, 0, 2), UNKNOWN);
        for (int gap = 0; gap <= 4; gap++) {
            int one = gap;
            refuse(SIX_BLADES, "rests(" + gap + ", " + gap + ", 0)", x -> x.rests(one, one, 0), OUTSIDE);
            refuse(SIX_BLADES, "rests(" + gap + ", " + gap + ", 1)", x -> x.rests(one, one, 1), OUTSIDE);
        }
        for (int what : beyond(0, 1)) {
            refuse(SIX_BLADES, "rests(0, 4, " + what + ")", x -> x.rests(0, 4, what), OUTSIDE);
        }
    }

    /** "FRACTIONS: refusals of them are told likewise": above and below. */
    private static void ofChances() {
        for (boolean upper : new boolean[] {true, false}) {
            for (int blade : beyond(0, 5)) {
                refuse(EVERY, "share(" + blade + ", " + upper + ")", x -> x.share(blade, upper), UNKNOWN);
            }
            refuse(NO_BLADES, "share(0, " + upper + ")", x -> x.share(0, upper), UNKNOWN);
            for (int side : beyond(0, 1)) {
                refuse(EVERY, "drops(" + side + ", 5, " + upper + ")", x -> x.drops(side, 5, upper), OUTSIDE);
                refuse(EVERY, "drops(" + side + ", 11, " + upper + ")", x -> x.drops(side, 11, upper), OUTSIDE);
            }
            for (int tenths : beyond(0, 10)) {
                refuse(EVERY, "drops(0, " + tenths + ", " + upper + ")", x -> x.drops(0, tenths, upper), OUTSIDE);
                refuse(EVERY, "drops(1, " + tenths + ", " + upper + ")", x -> x.drops(1, tenths, upper), OUTSIDE);
            }
        }
        for (int m : beyond(1, 30)) {
            refuse(EVERY, "years(" + m + ")", x -> x.years(m), OUTSIDE);
        }
    }

    private static void ofSlots() {
        for (int slot : beyond(0, 1)) {
            refuse(EVERY, "keep(" + slot + ")", x -> x.keep(slot), UNKNOWN);
            refuse(EVERY, "again(" + slot + ")", x -> x.again(slot), UNKNOWN);
        }
        refuse(NO_BLADES, "again(0), not kept", x -> x.again(0), STATE);
        refuse(NO_BLADES, "again(1), not kept", x -> x.again(1), STATE);
        refuse(EnumSet.of(State.RICH), "again(1), not kept", x -> x.again(1), STATE);
    }

    // ---- what changes

    private static void nothingChanges() {
        Map<State, Map<String, String>> told = new EnumMap<>(State.class);
        for (State state : State.values()) {
            told.put(state, Telling.of(make(state)));
        }
        for (Refused refused : ALL) {
            for (State state : refused.states) {
                FanBlades x = make(state);
                Check.due(state + ": " + refused.name, refused.call.on(x), refused.due);
                due(state + ": " + refused.name + " changes", changed(told.get(state), Telling.of(x)), "");
            }
        }
    }

    private static void due(String what, String got, String want) {
        Check.due(what + " '" + got + "', due is '" + want + "'", got.equals(want) ? 1 : 0, 1);
    }

    private static String changed(Map<String, String> before, Map<String, String> after) {
        Set<String> names = new TreeSet<>();
        for (String name : before.keySet()) {
            if (!before.get(name).equals(after.get(name))) {
                names.add(name);
            }
        }
        return String.join(" ", names);
    }

    private static void taken(State state, String name, Call call, long due, String changes) {
        FanBlades x = make(state);
        Check.due(state + ": " + name, call.on(x), due);
        due(state + ": " + name + " changes", changed(Telling.of(make(state)), Telling.of(x)), changes);
    }

    private static void whatChanges() {
        taken(State.RICH, "write('B')", x -> x.write('B'), 12, "text");
        taken(State.RICH, "wipe()", x -> x.wipe(), 11, "text");
        taken(State.FILLED, "wipe()", x -> x.wipe(), 64, "text");
        taken(State.NEW, "wipe()", x -> x.wipe(), 0, "");
        taken(State.RICH, "fault()", x -> x.fault(), NONE, "");
        taken(State.FILLED, "fault()", x -> x.fault(), 61, "");
        taken(State.RICH, "fan()", x -> x.fan(), 1, "acts blades gaps slots");
        taken(State.BARE, "fan()", x -> x.fan(), 0, "");
        taken(State.RICH, "word(2, 1)", x -> x.word(2, 1), 2, "word");
        taken(State.RICH, "word(0, 0)", x -> x.word(0, 0), 2, "word");
        taken(State.FILLED, "word(4, 10203)", x -> x.word(4, 10203), 5, "word");
        taken(State.RICH, "spread(4)", x -> x.spread(4), 1, "acts gaps");
        taken(State.RICH, "fold(0)", x -> x.fold(0), 1, "acts gaps");
        taken(State.RICH, "fling()", x -> x.fling(), 4, "acts gaps");
        taken(State.RICH, "snap()", x -> x.snap(), 5, "acts gaps");
        taken(State.RICH, "undo()", x -> x.undo(), 3, "acts gaps");
        taken(State.FILLED, "fling()", x -> x.fling(), 0, "acts");
        taken(State.FILLED, "snap()", x -> x.snap(), 16, "acts gaps");
        taken(State.RICH, "spy(2, 'c', 1)", x -> x.spy(2, 'c', 1), 3, "spied");
        taken(State.FILLED, "unspy()", x -> x.unspy(), 6, "spied");
        taken(State.RICH, "seed(5)", x -> x.seed(5), 77, "seed");
        taken(State.RICH, "keep(0)", x -> x.keep(0), 5, "slots");
        taken(State.RICH, "keep(1)", x -> x.keep(1), 5, "slots");
        taken(State.RICH, "again(0)", x -> x.again(0), 2, "acts gaps");
        taken(State.FILLED, "again(1)", x -> x.again(1), 0, "acts gaps");
        looksChangeNothing();
    }

    /** "In what follows nothing is changed"; "(Nothing changes but THE SEED.)" */
    private static void looksChangeNothing() {
        List<Call> looks = Arrays.asList(
            x -> x.blade(5, 3), x -> x.blade(0, 4), x -> x.look(0, 0, 0), x -> x.look(27, 1, 1),
            x -> x.reads(0), x -> x.reads(1), x -> x.open(0, 0), x -> x.open(1, 1), x -> x.most('a', 0),
            x -> x.most('z', 1), x -> x.judge(4, 100101103104L), x -> x.judge(4, 200400300500L),
            x -> x.judge(2, 999999), x -> x.gaps(0), x -> x.gaps(1), x -> x.share(0, true),
            x -> x.share(5, false), x -> x.rests(0, 1, 0), x -> x.rests(4, 2, 1), x -> x.drops(0, 3, true),
            x -> x.drops(1, 10, false), x -> x.count(2), x -> x.count(4));
        for (State state : State.values()) {
            Map<String, String> told = Telling.of(make(state));
            for (int i = 0; i < looks.size(); i++) {
                FanBlades x = make(state);
                looks.get(i).on(x);
                due(state + ": look " + i + " changes", changed(told, Telling.of(x)), "");
            }
            for (int m : new int[] {1, 30}) {
                FanBlades x = make(state);
                x.years(m);
                due(state + ": years(" + m + ") changes", changed(told, Telling.of(x)), "seed");
            }
        }
    }
}
