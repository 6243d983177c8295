import java.math.BigInteger;
import java.util.ArrayDeque;
import java.util.ArrayList;
import java.util.Arrays;
import java.util.Collections;
import java.util.HashMap;
import java.util.List;
import java.util.Map;
import java.util.TreeSet;
import java.util.regex.Matcher;
import java.util.regex.Pattern;

/**
 * The document once more, plain and slow, and by other means than the class where there are any:
 * faults by a pattern, the fewest steps by a search outward, shares by all orders, lists made anew.
 */
final class SlowFan {
    private static final int UNKNOWN = -1, OUTSIDE = -2, STATE = -3, FULL = -4, NONE = -9;
    private static final Pattern FAN = Pattern.compile("F(B[0-3][a-z]{8}){0,6}");

    private String text = "";
    private List<String> blades = new ArrayList<>();
    private List<Integer> gaps = new ArrayList<>();
    private String word = "";
    private final ArrayDeque<List<Integer>> acts = new ArrayDeque<>();
    private final List<int[]> spied = new ArrayList<>();
    private final Map<Integer, List<Integer>> slots = new HashMap<>();
    private long seed = 0;

    // ---- what is seen

    private static int kind(String blade) {
        return blade.charAt(1) - '0';
    }

    private static String letters(String blade, int side) {
        String four = blade.substring(2 + 4 * side, 6 + 4 * side);
        switch (kind(blade)) {
            case 1:
                return four.charAt(0) + "." + four.charAt(2) + ".";
            case 2:
                return four.substring(0, 2);
            default:
                return four;
        }
    }

    /** The uppermost blade at a place, of those that stay; or NONE. */
    private int uppermost(List<Integer> way, int side, int place, int staying) {
        int found = NONE;
        int begin = 0;
        for (int blade = 0; blade < blades.size(); blade++) {
            String letters = letters(blades.get(blade), side);
            int cell = place - begin;
            boolean there = cell >= 0 && cell < letters.length() && letters.charAt(cell) != '.';
            if (there && (staying >> blade & 1) == 1 && (side == 0 || found == NONE)) {
                found = blade;
            }
            begin += blade < way.size() ? way.get(blade) : 0;
        }
        return found;
    }

    private static int begin(List<Integer> way, int blade) {
        return way.subList(0, blade).stream().mapToInt(Integer::intValue).sum();
    }

    private String row(List<Integer> way, int side, int staying) {
        StringBuilder row = new StringBuilder();
        for (int place = 0; place < 28; place++) {
            int blade = uppermost(way, side, place, staying);
            row.append(blade == NONE ? '.' : letters(blades.get(blade), side).charAt(place - begin(way, blade)));
        }
        return row.toString();
    }

    private String row(List<Integer> way, int side) {
        return row(way, side, 63);
    }

    private int cells(List<Integer> way, int side, int blade) {
        int seen = 0;
        for (int place = 0; place < 28; place++) {
            seen += uppermost(way, side, place, 63) == blade ? 1 : 0;
        }
        return seen;
    }

    private int wide(List<Integer> way) {
        return row(way, 0).replaceAll("\\.+$", "").length();
    }

    private int readAt(String row, int side) {
        if (word.isEmpty()) {
            return 0;
        }
        if (side == 0) {
            int at = row.indexOf(word);
            return at < 0 ? NONE : at;
        }
        int at = new StringBuilder(row).reverse().indexOf(word);
        return at < 0 ? NONE : 27 - at;
    }

    // ---- the fan

    int write(int letter) {
        if (letter < 0 || letter > 255) {
            return OUTSIDE;
        }
        if (text.length() == 64) {
            return FULL;
        }
        text += (char) letter;
        return text.length();
    }

    int wipe() {
        int before = text.length();
        text = "";
        return before;
    }

    int fault() {
        for (int i = 0; i < text.length(); i++) {
            Matcher matcher = FAN.matcher(text.substring(0, i + 1));
            if (!matcher.matches() && !matcher.hitEnd()) {
                return i;
            }
        }
        return FAN.matcher(text).matches() ? NONE : text.length();
    }

    int fan() {
        if (fault() != NONE) {
            return STATE;
        }
        blades = new ArrayList<>();
        for (int i = 1; i < text.length(); i += 10) {
            blades.add(text.substring(i, i + 10));
        }
        gaps = new ArrayList<>(Collections.nCopies(Math.max(0, blades.size() - 1), 0));
        acts.clear();
        slots.clear();
        return blades.size();
    }

    int word(int n, long row) {
        if (n < 0 || n > 5 || row < 0) {
            return OUTSIDE;
        }
        String figures = row == 0 ? "" : Long.toString(row);
        if (figures.length() > 2 * n) {
            return OUTSIDE;
        }
        figures = "0".repeat(2 * n - figures.length()) + figures;
        StringBuilder letters = new StringBuilder();
        for (int i = 0; i < n; i++) {
            int number = Integer.parseInt(figures.substring(2 * i, 2 * i + 2));
            if (number > 25) {
                return OUTSIDE;
            }
            letters.append((char) ('a' + number));
        }
        int before = word.length();
        word = letters.toString();
        return before;
    }

    int blade(int blade, int what) {
        if (blade < 0 || blade >= blades.size()) {
            return UNKNOWN;
        }
        if (what < 0 || what > 5) {
            return OUTSIDE;
        }
        int[] answers = {
            kind(blades.get(blade)),
            begin(gaps, blade),
            letters(blades.get(blade), 0).length(),
            cells(gaps, 0, blade),
            cells(gaps, 1, blade),
            blade < gaps.size() ? gaps.get(blade) : NONE,
        };
        return answers[what];
    }

    int look(int place, int side, int what) {
        if (place < 0 || place > 27) {
            return UNKNOWN;
        }
        if (side < 0 || side > 1 || what < 0 || what > 1) {
            return OUTSIDE;
        }
        char letter = row(gaps, side).charAt(place);
        return letter == '.' ? NONE : what == 0 ? letter : uppermost(gaps, side, place, 63);
    }

    // ---- acts

    private boolean glued(int gap) {
        return kind(blades.get(gap)) == 3;
    }

    private boolean move(List<Integer> way, int gap, int by) {
        if (gap < 0 || gap >= way.size() || glued(gap)) {
            return false;
        }
        int then = way.get(gap) + by;
        if (then < 0 || then > 4) {
            return false;
        }
        way.set(gap, then);
        return true;
    }

    private int flungOf(List<Integer> way) {
        int more = 0;
        for (int gap = 0; gap < way.size(); gap++) {
            more += move(way, gap, 1) ? 1 : 0;
        }
        return more;
    }

    private static int sum(List<Integer> way) {
        return begin(way, way.size());
    }

    private void act(List<Integer> before) {
        acts.addLast(before);
        if (acts.size() > 14) {
            acts.removeFirst();
        }
    }

    private int step(int gap, int by) {
        if (gap < 0 || gap >= gaps.size()) {
            return UNKNOWN;
        }
        List<Integer> before = new ArrayList<>(gaps);
        if (!move(gaps, gap, by)) {
            return STATE;
        }
        act(before);
        return gaps.get(gap);
    }

    int spread(int gap) {
        return step(gap, 1);
    }

    int fold(int gap) {
        return step(gap, -1);
    }

    int fling() {
        act(new ArrayList<>(gaps));
        return flungOf(gaps);
    }

    int snap() {
        act(new ArrayList<>(gaps));
        int before = sum(gaps);
        Collections.fill(gaps, 0);
        return before;
    }

    int undo() {
        if (acts.isEmpty()) {
            return STATE;
        }
        gaps = acts.removeLast();
        return acts.size();
    }

    // ---- reading

    int reads(int side) {
        return side < 0 || side > 1 ? OUTSIDE : readAt(row(gaps, side), side);
    }

    private static int figures(List<Integer> way) {
        int figures = 0;
        for (int gap : way) {
            figures = 10 * figures + gap;
        }
        return figures;
    }

    /** Goes outward from the gaps as they are, one spread or folding at a time. */
    int open(int side, int what) {
        if (side < 0 || side > 1 || what < 0 || what > 1) {
            return OUTSIDE;
        }
        Map<List<Integer>, Boolean> met = new HashMap<>();
        List<List<Integer>> ring = new ArrayList<>();
        ring.add(gaps);
        met.put(gaps, true);
        for (int steps = 0; !ring.isEmpty(); steps++) {
            TreeSet<Integer> read = new TreeSet<>();
            List<List<Integer>> next = new ArrayList<>();
            for (List<Integer> way : ring) {
                if (readAt(row(way, side), side) != NONE) {
                    read.add(figures(way));
                }
                for (int i = 0; i < 2 * way.size(); i++) {
                    List<Integer> other = new ArrayList<>(way);
                    if (move(other, i / 2, i % 2 == 0 ? 1 : -1) && met.put(other, true) == null) {
                        next.add(other);
                    }
                }
            }
            if (!read.isEmpty()) {
                return what == 0 ? steps : read.first();
            }
            ring = next;
        }
        return NONE;
    }

    private List<List<Integer>> allWays() {
        List<List<Integer>> all = new ArrayList<>();
        all.add(new ArrayList<>());
        for (int gap = 0; gap < gaps.size(); gap++) {
            List<List<Integer>> longer = new ArrayList<>();
            for (List<Integer> way : all) {
                for (int figure = 0; figure <= (glued(gap) ? 0 : 4); figure++) {
                    List<Integer> more = new ArrayList<>(way);
                    more.add(figure);
                    longer.add(more);
                }
            }
            all = longer;
        }
        return all;
    }

    int most(int letter, int what) {
        if (letter < 'a' || letter > 'z' || what < 0 || what > 1) {
            return OUTSIDE;
        }
        TreeSet<Long> ranked = new TreeSet<>();
        for (List<Integer> way : allWays()) {
            long seen = row(way, 0).chars().filter(c -> c == letter).count();
            ranked.add(seen * 100000 + 99999 - figures(way));
        }
        long best = ranked.last();
        return (int) (what == 0 ? best / 100000 : 99999 - best % 100000);
    }

    int judge(int n, long row) {
        if (n < 1 || n > 4 || row < 0 || (row + "").length() > 3 * n) {
            return OUTSIDE;
        }
        String figures = "0".repeat(3 * n - (row + "").length()) + row;
        List<Integer> way = new ArrayList<>(gaps);
        for (int i = 0; i < n; i++) {
            if (!comesTrue(way, figures.substring(3 * i, 3 * i + 3))) {
                return i;
            }
        }
        return NONE;
    }

    private boolean comesTrue(List<Integer> way, String doing) {
        int last = doing.charAt(2) - '0';
        if (doing.matches("10.")) {
            return move(way, last, 1);
        }
        if (doing.matches("20.")) {
            return move(way, last, -1);
        }
        if (doing.equals("300")) {
            return flungOf(way) >= 0;
        }
        if (doing.equals("400")) {
            Collections.fill(way, 0);
            return true;
        }
        if (doing.matches("50[01]")) {
            return readAt(row(way, last), last) != NONE;
        }
        if (doing.startsWith("6")) {
            int blade = doing.charAt(1) - '0';
            return blade < blades.size() && cells(way, 0, blade) >= last;
        }
        return doing.startsWith("7") && wide(way) >= Integer.parseInt(doing.substring(1));
    }

    // ---- spied

    int spy(int place, int letter, int seen) {
        if (place < 0 || place > 27) {
            return UNKNOWN;
        }
        if (letter < 'a' || letter > 'z' || seen < 0 || seen > 1) {
            return OUTSIDE;
        }
        if (spied.size() == 6) {
            return FULL;
        }
        spied.add(new int[] {place, letter, seen});
        return spied.size();
    }

    int unspy() {
        int before = spied.size();
        spied.clear();
        return before;
    }

    int gaps(int what) {
        if (what < 0 || what > 1) {
            return OUTSIDE;
        }
        TreeSet<Integer> fitting = new TreeSet<>();
        for (List<Integer> way : allWays()) {
            String row = row(way, 0);
            if (spied.stream().allMatch(s -> (row.charAt(s[0]) == s[1]) == (s[2] == 1))) {
                fitting.add(figures(way));
            }
        }
        return what == 0 ? fitting.size() : fitting.isEmpty() ? NONE : fitting.first();
    }

    // ---- shares, rests, chances

    private static int told(long above, long below, boolean upper) {
        long shared = BigInteger.valueOf(above).gcd(BigInteger.valueOf(below)).longValue();
        return (int) ((upper ? above : below) / shared);
    }

    private int placesSeen(int staying) {
        return row(gaps, 0, staying).replace(".", "").length();
    }

    /** {what the blade adds over all orders, how many orders} */
    private long[] addedInOrders(int blade, int come) {
        long[] added = {0, 0};
        for (int next = 0; next < blades.size(); next++) {
            if ((come >> next & 1) == 0) {
                long[] later = addedInOrders(blade, come | 1 << next);
                added[0] += later[0];
                added[1] += later[1];
                if (next == blade) {
                    added[0] += later[1] * (placesSeen(come | 1 << next) - placesSeen(come));
                }
            }
        }
        return added[1] == 0 ? new long[] {0, 1} : added;
    }

    int share(int blade, boolean upper) {
        if (blade < 0 || blade >= blades.size()) {
            return UNKNOWN;
        }
        long[] added = addedInOrders(blade, 0);
        return told(added[0], added[1], upper);
    }

    /** What a gap has, if it chose and the other gap chose so. */
    private int has(int gap, int chose, int other, int otherChose) {
        List<Integer> way = new ArrayList<>(gaps);
        if (chose == 1) {
            move(way, gap, 1);
        }
        if (otherChose == 1) {
            move(way, other, 1);
        }
        return 2 * cells(way, 0, gap) - cells(way, 0, other + 1) - chose;
    }

    int rests(int one, int other, int what) {
        if (one < 0 || one >= gaps.size() || other < 0 || other >= gaps.size()) {
            return UNKNOWN;
        }
        if (one == other || what < 0 || what > 1) {
            return OUTSIDE;
        }
        List<Integer> resting = new ArrayList<>();
        for (int pair : Arrays.asList(0, 1, 10, 11)) {
            int a = pair / 10;
            int b = pair % 10;
            boolean better = has(one, 1 - a, other, b) > has(one, a, other, b);
            boolean otherBetter = has(other, 1 - b, one, a) > has(other, b, one, a);
            if (!better && !otherBetter) {
                resting.add(pair);
            }
        }
        return what == 0 ? resting.size() : resting.isEmpty() ? NONE : resting.get(0);
    }

    private long readWeight(int side, int x, int blade, int staying) {
        if (blade == blades.size()) {
            return readAt(row(gaps, side, staying), side) == NONE ? 0 : 1;
        }
        return x * readWeight(side, x, blade + 1, staying)
            + (10 - x) * readWeight(side, x, blade + 1, staying | 1 << blade);
    }

    int drops(int side, int x, boolean upper) {
        if (side < 0 || side > 1 || x < 0 || x > 10) {
            return OUTSIDE;
        }
        long below = BigInteger.TEN.pow(blades.size()).longValue();
        return told(readWeight(side, x, 0, 0), below, upper);
    }

    long seed(long v) {
        long before = seed;
        seed = v;
        return before;
    }

    int years(int m) {
        if (m < 1 || m > 30) {
            return OUTSIDE;
        }
        List<Integer> way = new ArrayList<>(gaps);
        int together = 0;
        for (int i = 0; i < m; i++) {
            BigInteger next = BigInteger.valueOf(seed).multiply(new BigInteger("6364136223846793005"))
                .add(new BigInteger("1442695040888963407")).mod(BigInteger.TWO.pow(64));
            seed = next.longValue();
            int chance = next.shiftRight(33).mod(BigInteger.valueOf(16)).intValue();
            if (chance <= 4) {
                move(way, chance, 1);
            } else if (chance <= 9) {
                move(way, chance - 5, -1);
            } else if (chance <= 13) {
                flungOf(way);
            } else {
                Collections.fill(way, 0);
            }
            together += wide(way);
        }
        return together;
    }

    // ---- slots

    int keep(int slot) {
        if (slot < 0 || slot > 1) {
            return UNKNOWN;
        }
        slots.put(slot, new ArrayList<>(gaps));
        return sum(gaps);
    }

    int again(int slot) {
        if (slot < 0 || slot > 1) {
            return UNKNOWN;
        }
        if (!slots.containsKey(slot)) {
            return STATE;
        }
        gaps = new ArrayList<>(slots.get(slot));
        acts.clear();
        return sum(gaps);
    }

    int count(int what) {
        if (what < 0 || what > 8) {
            return OUTSIDE;
        }
        int[] answers = {
            text.length(), blades.size(), wide(gaps), placesSeen(63), figures(gaps), sum(gaps),
            word.length(), acts.size(), spied.size(),
        };
        return answers[what];
    }
}
