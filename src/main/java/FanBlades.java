import java.util.Arrays;

/**
 * A folding fan of lettered blades. The words in capitals here are those of the document's "Terms".
 *
 * <p>Every row is made with the object and used again, so that no call makes an object.
 */
public final class FanBlades {
    public static final int UNKNOWN = -1, OUTSIDE = -2, STATE = -3, FULL = -4, NONE = -9;

    private static final int TEXT_MOST = 64;
    private static final int BLADES_MOST = 6;
    private static final int GAPS_MOST = 5;
    private static final int GAP_WIDEST = 4;
    private static final int PLACES = 28;
    private static final int WORD_MOST = 5;
    private static final int ACTS_MOST = 14;
    private static final int DOINGS_MOST = 4;
    private static final int SPIED_MOST = 6;
    private static final int SLOTS = 2;
    private static final int YEARS_MOST = 30;
    /** Five figures for each of five GAPS. */
    private static final int WAYS_MOST = 3125;

    private static final int FRONT = 0;
    private static final int CELLS = 4;
    private static final int TORN_CELLS = 2;
    private static final int LETTERS_OF_BLADE = 8;
    private static final int PIERCED = 1;
    private static final int TORN = 2;
    private static final int GLUED = 3;

    private static final int ALL_STAY = (1 << BLADES_MOST) - 1;
    /** Can be divided by 1 to 6, as many BLADES as can cover one PLACE. */
    private static final int SHARE_BELOW = 60;
    private static final int TENTHS = 10;
    private static final int GCD_STEPS = 64;
    private static final long SEED_TIMES = 6364136223846793005L;
    private static final long SEED_PLUS = 1442695040888963407L;

    private final Letters text = new Letters();
    private final Blades blades = new Blades();
    private final GapRow now = new GapRow(blades);
    private final GapRow trial = new GapRow(blades);
    private final View view = new View(blades);
    private final Ways ways = new Ways(blades, trial, view);
    private final Word told = new Word();
    private final Acts acts = new Acts();
    private final Slots slots = new Slots();
    private final Spied spied = new Spied();
    /** What each of two GAPS has in the pairs 00, 01, 10, 11. */
    private final int[] oneHas = new int[4];
    private final int[] otherHas = new int[4];
    private final int[] doings = new int[DOINGS_MOST];
    private long seedNow;

    public FanBlades() {
    }

    // ---- the fan

    public int write(int letter) {
        if (letter < 0 || letter > 255) {
            return OUTSIDE;
        }
        return text.append(letter) ? text.length() : FULL;
    }

    public int wipe() {
        int before = text.length();
        text.clear();
        return before;
    }

    public int fault() {
        return text.firstFault();
    }

    public int fan() {
        if (text.firstFault() != NONE) {
            return STATE;
        }
        blades.take(text);
        now.clear();
        acts.clear();
        slots.clear();
        return blades.size();
    }

    public int word(int n, long row) {
        if (n < 0 || n > WORD_MOST || !hasFigures(row, 2 * n) || !areLetters(n, row)) {
            return OUTSIDE;
        }
        int before = told.length();
        told.take(n, row);
        return before;
    }

    public int blade(int blade, int what) {
        if (!blades.has(blade)) {
            return UNKNOWN;
        }
        switch (what) {
            case 0:
                return blades.kindOf(blade);
            case 1:
                return now.sumAhead(blade);
            case 2:
                return blades.widthOf(blade);
            case 3:
            case 4:
                view.layAll(now, what - 3);
                return view.cellsSeen(blade);
            case 5:
                return blades.hasGap(blade) ? now.at(blade) : NONE;
            default:
                return OUTSIDE;
        }
    }

    public int look(int place, int side, int what) {
        if (!isPlace(place)) {
            return UNKNOWN;
        }
        if (!isBit(side) || !isBit(what)) {
            return OUTSIDE;
        }
        view.layAll(now, side);
        return what == 0 ? view.letterAt(place) : view.bladeAt(place);
    }

    // ---- acts

    public int spread(int gap) {
        if (!blades.hasGap(gap)) {
            return UNKNOWN;
        }
        if (!now.canWiden(gap)) {
            return STATE;
        }
        acts.remember(now);
        now.widen(gap);
        return now.at(gap);
    }

    public int fold(int gap) {
        if (!blades.hasGap(gap)) {
            return UNKNOWN;
        }
        if (!now.canNarrow(gap)) {
            return STATE;
        }
        acts.remember(now);
        now.narrow(gap);
        return now.at(gap);
    }

    public int fling() {
        acts.remember(now);
        return now.widenAll();
    }

    public int snap() {
        acts.remember(now);
        int before = now.sum();
        now.clear();
        return before;
    }

    public int undo() {
        return acts.takeBack(now) ? acts.size() : STATE;
    }

    // ---- reading

    public int reads(int side) {
        if (!isBit(side)) {
            return OUTSIDE;
        }
        view.layAll(now, side);
        return told.firstRead(view);
    }

    public int open(int side, int what) {
        if (!isBit(side) || !isBit(what)) {
            return OUTSIDE;
        }
        int fewest = NONE;
        int figures = NONE;
        boolean more = true;
        ways.begin(side);
        for (int i = 0; more && i < WAYS_MOST; i++) {
            int steps = trial.stepsFrom(now);
            // ways come by their figures, so of like ones the least is the one that came first
            if ((fewest == NONE || steps < fewest) && told.isRead(view)) {
                fewest = steps;
                figures = trial.figures();
            }
            more = ways.step();
        }
        return what == 0 ? fewest : figures;
    }

    public int most(int letter, int what) {
        if (!isLetter(letter) || !isBit(what)) {
            return OUTSIDE;
        }
        int highest = NONE;
        int figures = NONE;
        boolean more = true;
        ways.begin(FRONT);
        for (int i = 0; more && i < WAYS_MOST; i++) {
            int seen = view.placesWith(letter);
            if (seen > highest) {
                highest = seen;
                figures = trial.figures();
            }
            more = ways.step();
        }
        return what == 0 ? highest : figures;
    }

    public int judge(int n, long row) {
        if (n < 1 || n > DOINGS_MOST || !hasFigures(row, 3 * n)) {
            return OUTSIDE;
        }
        long rest = row;
        for (int place = n - 1; place >= 0; place--) {
            doings[place] = (int) (rest % 1000);
            rest /= 1000;
        }
        trial.copyFrom(now);
        for (int place = 0; place < n; place++) {
            int doing = doings[place];
            if (!comesTrue(doing / 100, doing / 10 % 10, doing % 10)) {
                return place;
            }
        }
        return NONE;
    }

    // ---- spied

    public int spy(int place, int letter, int seen) {
        if (!isPlace(place)) {
            return UNKNOWN;
        }
        if (!isLetter(letter) || !isBit(seen)) {
            return OUTSIDE;
        }
        return spied.add(place, letter, seen == 1) ? spied.size() : FULL;
    }

    public int unspy() {
        int before = spied.size();
        spied.clear();
        return before;
    }

    public int gaps(int what) {
        if (!isBit(what)) {
            return OUTSIDE;
        }
        int fitting = 0;
        int first = NONE;
        boolean more = true;
        ways.begin(FRONT);
        for (int i = 0; more && i < WAYS_MOST; i++) {
            if (spied.fits(view)) {
                fitting++;
                if (first == NONE) {
                    first = trial.figures();
                }
            }
            more = ways.step();
        }
        return what == 0 ? fitting : first;
    }

    // ---- shares, rests, chances

    public int share(int blade, boolean upper) {
        if (!blades.has(blade)) {
            return UNKNOWN;
        }
        int above = 0;
        int begin = now.sumAhead(blade);
        for (int cell = 0; cell < CELLS; cell++) {
            if (blades.isSolid(blade, cell)) {
                above += shareOfPlace(begin + cell);
            }
        }
        return fraction(above, SHARE_BELOW, upper);
    }

    public int rests(int one, int other, int what) {
        if (!blades.hasGap(one) || !blades.hasGap(other)) {
            return UNKNOWN;
        }
        if (one == other || !isBit(what)) {
            return OUTSIDE;
        }
        for (int pair = 0; pair < 4; pair++) {
            weighPair(one, other, pair);
        }
        int resting = 0;
        int first = NONE;
        for (int pair = 0; pair < 4; pair++) {
            // the choice of the one is the pair's upper bit, that of the other its lower bit
            if (oneHas[pair] >= oneHas[pair ^ 2] && otherHas[pair] >= otherHas[pair ^ 1]) {
                resting++;
                if (first == NONE) {
                    first = 10 * (pair >> 1) + (pair & 1);
                }
            }
        }
        return what == 0 ? resting : first;
    }

    public int drops(int side, int x, boolean upper) {
        if (!isBit(side) || x < 0 || x > TENTHS) {
            return OUTSIDE;
        }
        int above = 0;
        int below = 1;
        for (int blade = 0; blade < blades.size(); blade++) {
            below *= TENTHS;
        }
        for (int staying = 0; staying < 1 << blades.size(); staying++) {
            int weight = weightOf(staying, x);
            if (weight > 0) {
                view.layStaying(now, side, staying);
                above += told.isRead(view) ? weight : 0;
            }
        }
        return fraction(above, below, upper);
    }

    public long seed(long v) {
        long before = seedNow;
        seedNow = v;
        return before;
    }

    public int years(int m) {
        if (m < 1 || m > YEARS_MOST) {
            return OUTSIDE;
        }
        int together = 0;
        trial.copyFrom(now);
        for (int year = 0; year < m; year++) {
            seedNow = seedNow * SEED_TIMES + SEED_PLUS;
            passYear((int) ((seedNow >>> 33) % 16));
            view.layAll(trial, FRONT);
            together += view.wide();
        }
        return together;
    }

    // ---- slots

    public int keep(int slot) {
        return slots.store(slot, now) ? now.sum() : UNKNOWN;
    }

    public int again(int slot) {
        if (!slots.has(slot)) {
            return UNKNOWN;
        }
        if (!slots.restore(slot, now)) {
            return STATE;
        }
        acts.clear();
        return now.sum();
    }

    public int count(int what) {
        switch (what) {
            case 0:
                return text.length();
            case 1:
                return blades.size();
            case 2:
                view.layAll(now, FRONT);
                return view.wide();
            case 3:
                view.layAll(now, FRONT);
                return view.placesSeen();
            case 4:
                return now.figures();
            case 5:
                return now.sum();
            case 6:
                return told.length();
            case 7:
                return acts.size();
            case 8:
                return spied.size();
            default:
                return OUTSIDE;
        }
    }

    // ---- parts of the calls

    /** One doing of those JUDGED, done on the trial row: false if it can not be or is not so. */
    private boolean comesTrue(int kind, int middle, int last) {
        switch (kind) {
            case 1:
                return middle == 0 && trial.widen(last);
            case 2:
                return middle == 0 && trial.narrow(last);
            case 3:
                if (middle != 0 || last != 0) {
                    return false;
                }
                trial.widenAll();
                return true;
            case 4:
                if (middle != 0 || last != 0) {
                    return false;
                }
                trial.clear();
                return true;
            case 5:
                if (middle != 0 || !isBit(last)) {
                    return false;
                }
                view.layAll(trial, last);
                return told.isRead(view);
            case 6:
                view.layAll(trial, FRONT);
                return blades.has(middle) && view.cellsSeen(middle) >= last;
            case 7:
                view.layAll(trial, FRONT);
                return view.wide() >= 10 * middle + last;
            default:
                return false;
        }
    }

    /**
     * What one of the BLADES that cover a PLACE has of it, in parts of SHARE_BELOW: in a chance
     * order each of them is as likely the first there, and only the first makes it SEEN.
     */
    private int shareOfPlace(int place) {
        int covering = 0;
        for (int blade = 0; blade < blades.size(); blade++) {
            if (blades.isSolid(blade, place - now.sumAhead(blade))) {
                covering++;
            }
        }
        return covering == 0 ? 0 : SHARE_BELOW / covering;
    }

    private void weighPair(int one, int other, int pair) {
        int oneChose = pair >> 1;
        int otherChose = pair & 1;
        trial.copyFrom(now);
        if (oneChose == 1) {
            trial.widen(one);
        }
        if (otherChose == 1) {
            trial.widen(other);
        }
        view.layAll(trial, FRONT);
        oneHas[pair] = 2 * view.cellsSeen(one) - view.cellsSeen(other + 1) - oneChose;
        otherHas[pair] = 2 * view.cellsSeen(other) - view.cellsSeen(one + 1) - otherChose;
    }

    /** How likely just these BLADES stay, in parts of ten to the number of BLADES. */
    private int weightOf(int staying, int x) {
        int weight = 1;
        for (int blade = 0; blade < blades.size(); blade++) {
            weight *= (staying >> blade & 1) == 1 ? TENTHS - x : x;
        }
        return weight;
    }

    private void passYear(int chance) {
        if (chance < 5) {
            trial.widen(chance);
        } else if (chance < 10) {
            trial.narrow(chance - 5);
        } else if (chance < 14) {
            trial.widenAll();
        } else {
            trial.clear();
        }
    }

    // ---- plain tests and sums

    private static boolean isBit(int value) {
        return value == 0 || value == 1;
    }

    private static boolean isPlace(int place) {
        return place >= 0 && place < PLACES;
    }

    private static boolean isLetter(int letter) {
        return letter >= 'a' && letter <= 'z';
    }

    private static long tenTo(int power) {
        long ten = 1;
        for (int i = 0; i < power; i++) {
            ten *= 10;
        }
        return ten;
    }

    private static boolean hasFigures(long row, int figures) {
        return row >= 0 && row < tenTo(figures);
    }

    private static boolean areLetters(int n, long row) {
        long rest = row;
        for (int i = 0; i < n; i++) {
            if (rest % 100 > 'z' - 'a') {
                return false;
            }
            rest /= 100;
        }
        return true;
    }

    private static int fraction(int above, int below, boolean upper) {
        int shared = greatestShared(above, below);
        if (shared == 0) {
            return upper ? above : below;
        }
        return upper ? above / shared : below / shared;
    }

    private static int greatestShared(int above, int below) {
        int one = above;
        int other = below;
        for (int i = 0; i < GCD_STEPS && other != 0; i++) {
            int rest = one % other;
            one = other;
            other = rest;
        }
        return one;
    }

    /** THE TEXT. */
    private static final class Letters {
        private final int[] row = new int[TEXT_MOST];
        private int length;

        int length() {
            return length;
        }

        int at(int place) {
            return place >= 0 && place < length ? row[place] : NONE;
        }

        boolean append(int letter) {
            if (length >= TEXT_MOST) {
                return false;
            }
            row[length] = letter;
            length++;
            return true;
        }

        void clear() {
            length = 0;
        }

        int firstFault() {
            for (int place = 0; place < length; place++) {
                if (!canStand(row[place], place)) {
                    return place;
                }
            }
            return length % 10 == 1 ? NONE : length;
        }

        /** Behind the F each BLADE takes ten letters, so a letter's place alone tells what it can be. */
        private static boolean canStand(int letter, int place) {
            if (place == 0) {
                return letter == 'F';
            }
            if (place > 10 * BLADES_MOST) {
                return false;
            }
            switch ((place - 1) % 10) {
                case 0:
                    return letter == 'B';
                case 1:
                    return letter >= '0' && letter <= '3';
                default:
                    return isLetter(letter);
            }
        }
    }

    /** The BLADES. A MARK is the number of a letter among those of all BLADES, eight to a BLADE. */
    private static final class Blades {
        private final int[] kinds = new int[BLADES_MOST];
        private final int[] letters = new int[BLADES_MOST * LETTERS_OF_BLADE];
        private int size;

        /** Takes a text that has no fault. */
        void take(Letters text) {
            size = Math.min(text.length() / 10, BLADES_MOST);
            for (int blade = 0; blade < size; blade++) {
                int begin = 1 + 10 * blade;
                kinds[blade] = text.at(begin + 1) - '0';
                for (int i = 0; i < LETTERS_OF_BLADE; i++) {
                    letters[blade * LETTERS_OF_BLADE + i] = text.at(begin + 2 + i);
                }
            }
        }

        int size() {
            return size;
        }

        boolean has(int blade) {
            return blade >= 0 && blade < size;
        }

        boolean hasGap(int gap) {
            return gap >= 0 && gap < size - 1;
        }

        /** There is such a GAP, and the BLADE ahead of it is not GLUED. */
        boolean canPart(int gap) {
            return gap >= 0 && gap < size - 1 && kinds[gap] != GLUED;
        }

        int kindOf(int blade) {
            return blade >= 0 && blade < size ? kinds[blade] : NONE;
        }

        int widthOf(int blade) {
            return kindOf(blade) == TORN ? TORN_CELLS : CELLS;
        }

        /** There is such a CELL, and it is no hole. */
        boolean isSolid(int blade, int cell) {
            if (blade < 0 || blade >= size || cell < 0 || cell >= CELLS) {
                return false;
            }
            switch (kinds[blade]) {
                case PIERCED:
                    return cell % 2 == 0;
                case TORN:
                    return cell < TORN_CELLS;
                default:
                    return true;
            }
        }

        int markOf(int blade, int side, int cell) {
            return blade * LETTERS_OF_BLADE + side * CELLS + cell;
        }

        int letterOf(int mark) {
            return mark >= 0 && mark < letters.length ? letters[mark] : NONE;
        }
    }

    /** One way in which the GAPS can be. A GAP behind a GLUED BLADE is 0 in every one. */
    private static final class GapRow {
        private final Blades blades;
        private final int[] row = new int[GAPS_MOST];

        GapRow(Blades blades) {
            this.blades = blades;
        }

        int at(int gap) {
            return gap >= 0 && gap < GAPS_MOST ? row[gap] : 0;
        }

        boolean canWiden(int gap) {
            return blades.canPart(gap) && row[gap] < GAP_WIDEST;
        }

        boolean canNarrow(int gap) {
            return blades.canPart(gap) && row[gap] > 0;
        }

        boolean widen(int gap) {
            if (!canWiden(gap)) {
                return false;
            }
            row[gap]++;
            return true;
        }

        boolean narrow(int gap) {
            if (!canNarrow(gap)) {
                return false;
            }
            row[gap]--;
            return true;
        }

        int widenAll() {
            int widened = 0;
            for (int gap = 0; gap < GAPS_MOST; gap++) {
                if (widen(gap)) {
                    widened++;
                }
            }
            return widened;
        }

        void close(int gap) {
            if (gap >= 0 && gap < GAPS_MOST) {
                row[gap] = 0;
            }
        }

        void clear() {
            Arrays.fill(row, 0);
        }

        int sum() {
            return sumAhead(GAPS_MOST);
        }

        /** All GAPS ahead of a BLADE together: the PLACE at which it begins. */
        int sumAhead(int blade) {
            int sum = 0;
            for (int gap = 0; gap < blade && gap < GAPS_MOST; gap++) {
                sum += row[gap];
            }
            return sum;
        }

        int figures() {
            int figures = 0;
            for (int gap = 0; gap < GAPS_MOST && blades.hasGap(gap); gap++) {
                figures = 10 * figures + row[gap];
            }
            return figures;
        }

        /** How many SPREADS and FOLDINGS lead here from another way. */
        int stepsFrom(GapRow other) {
            int steps = 0;
            for (int gap = 0; gap < GAPS_MOST; gap++) {
                steps += Math.abs(row[gap] - other.row[gap]);
            }
            return steps;
        }

        void copyFrom(GapRow other) {
            System.arraycopy(other.row, 0, row, 0, GAPS_MOST);
        }

        void copyTo(int[] kept) {
            System.arraycopy(row, 0, kept, 0, GAPS_MOST);
        }

        void copyBack(int[] kept) {
            System.arraycopy(kept, 0, row, 0, GAPS_MOST);
        }
    }

    /**
     * What is SEEN from one side. BLADES are laid in their order, each on a row of its own that
     * begins as the row ahead was, so that a change of one GAP leaves the rows ahead as they are.
     */
    private static final class View {
        private final Blades blades;
        /** Row b has, at each PLACE, the MARK SEEN if only the first b BLADES are there, or NONE. */
        private final int[][] marks = new int[BLADES_MOST + 1][PLACES];
        private final int[] begins = new int[BLADES_MOST];
        private int side;
        private int laid;

        View(Blades blades) {
            this.blades = blades;
            Arrays.fill(marks[0], NONE);
        }

        int side() {
            return side;
        }

        void layAll(GapRow gaps, int from) {
            side = from;
            layFrom(0, gaps, ALL_STAY);
        }

        void layStaying(GapRow gaps, int from, int staying) {
            side = from;
            layFrom(0, gaps, staying);
        }

        void layFrom(int first, GapRow gaps, int staying) {
            laid = blades.size();
            for (int blade = Math.max(0, first); blade < laid && blade < BLADES_MOST; blade++) {
                begins[blade] = blade == 0 ? 0 : begins[blade - 1] + gaps.at(blade - 1);
                System.arraycopy(marks[blade], 0, marks[blade + 1], 0, PLACES);
                if ((staying >> blade & 1) == 1) {
                    lay(blade, marks[blade + 1]);
                }
            }
        }

        private void lay(int blade, int[] row) {
            for (int cell = 0; cell < CELLS; cell++) {
                int place = begins[blade] + cell;
                if (isPlace(place) && blades.isSolid(blade, cell) && liesUpper(row[place])) {
                    row[place] = blades.markOf(blade, side, cell);
                }
            }
        }

        /** From BEHIND a BLADE laid later is SEEN only where there is none yet. */
        private boolean liesUpper(int mark) {
            return side == FRONT || mark < 0;
        }

        /** One more than the last PLACE to which any BLADE can reach. */
        int reach() {
            return laid == 0 ? 0 : Math.min(PLACES, begins[laid - 1] + CELLS);
        }

        private int markAt(int place) {
            return place >= 0 && place < PLACES ? marks[laid][place] : NONE;
        }

        int letterAt(int place) {
            return blades.letterOf(markAt(place));
        }

        int bladeAt(int place) {
            int mark = markAt(place);
            return mark < 0 ? NONE : mark / LETTERS_OF_BLADE;
        }

        int cellsSeen(int blade) {
            int seen = 0;
            int end = reach();
            for (int place = 0; place < end; place++) {
                if (bladeAt(place) == blade) {
                    seen++;
                }
            }
            return seen;
        }

        int placesSeen() {
            int seen = 0;
            int end = reach();
            for (int place = 0; place < end; place++) {
                if (markAt(place) >= 0) {
                    seen++;
                }
            }
            return seen;
        }

        int placesWith(int letter) {
            int seen = 0;
            int end = reach();
            for (int place = 0; place < end; place++) {
                if (letterAt(place) == letter) {
                    seen++;
                }
            }
            return seen;
        }

        int wide() {
            for (int place = reach() - 1; place >= 0; place--) {
                if (markAt(place) >= 0) {
                    return place + 1;
                }
            }
            return 0;
        }
    }

    /** All ways in which the GAPS can be, by their figures, each laid as it comes. */
    private static final class Ways {
        private final Blades blades;
        private final GapRow way;
        private final View view;

        Ways(Blades blades, GapRow way, View view) {
            this.blades = blades;
            this.way = way;
            this.view = view;
        }

        void begin(int side) {
            way.clear();
            view.layAll(way, side);
        }

        /** Goes on to the next way; false: there is none. */
        boolean step() {
            for (int gap = blades.size() - 2; gap >= 0; gap--) {
                if (way.widen(gap)) {
                    view.layFrom(gap + 1, way, ALL_STAY);
                    return true;
                }
                way.close(gap);
            }
            return false;
        }
    }

    /** THE WORD. */
    private static final class Word {
        private final int[] letters = new int[WORD_MOST];
        private int length;

        int length() {
            return length;
        }

        /** Takes a row of n letters, two figures each. */
        void take(int n, long row) {
            long rest = row;
            length = Math.max(0, Math.min(n, WORD_MOST));
            for (int i = length - 1; i >= 0; i--) {
                letters[i] = (int) ('a' + rest % 100);
                rest /= 100;
            }
        }

        boolean isRead(View view) {
            return firstRead(view) != NONE;
        }

        int firstRead(View view) {
            if (length == 0) {
                return 0;
            }
            int end = view.reach();
            int step = view.side() == FRONT ? 1 : -1;
            int place = step > 0 ? 0 : end - 1;
            for (int i = 0; i < end; i++) {
                if (isReadAt(view, place, step)) {
                    return place;
                }
                place += step;
            }
            return NONE;
        }

        private boolean isReadAt(View view, int place, int step) {
            for (int i = 0; i < length; i++) {
                if (view.letterAt(place + i * step) != letters[i]) {
                    return false;
                }
            }
            return true;
        }
    }

    /** THE ROW of ACTS, each kept as the GAPS that were ahead of it. */
    private static final class Acts {
        private final int[][] rows = new int[ACTS_MOST][GAPS_MOST];
        private int size;

        int size() {
            return size;
        }

        void clear() {
            size = 0;
        }

        void remember(GapRow gaps) {
            if (size >= ACTS_MOST) {
                forgetFirst();
            }
            gaps.copyTo(rows[size]);
            size++;
        }

        private void forgetFirst() {
            for (int i = 1; i < ACTS_MOST; i++) {
                System.arraycopy(rows[i], 0, rows[i - 1], 0, GAPS_MOST);
            }
            size = ACTS_MOST - 1;
        }

        boolean takeBack(GapRow gaps) {
            if (size <= 0) {
                return false;
            }
            size--;
            gaps.copyBack(rows[size]);
            return true;
        }
    }

    /** The SLOTS. */
    private static final class Slots {
        private final int[][] rows = new int[SLOTS][GAPS_MOST];
        private final boolean[] kept = new boolean[SLOTS];

        boolean has(int slot) {
            return slot >= 0 && slot < SLOTS;
        }

        void clear() {
            for (int slot = 0; slot < SLOTS; slot++) {
                kept[slot] = false;
            }
        }

        boolean store(int slot, GapRow gaps) {
            if (!has(slot)) {
                return false;
            }
            gaps.copyTo(rows[slot]);
            kept[slot] = true;
            return true;
        }

        boolean restore(int slot, GapRow gaps) {
            if (!has(slot) || !kept[slot]) {
                return false;
            }
            gaps.copyBack(rows[slot]);
            return true;
        }
    }

    /** What is SPIED. */
    private static final class Spied {
        private final int[] places = new int[SPIED_MOST];
        private final int[] letters = new int[SPIED_MOST];
        private final boolean[] seen = new boolean[SPIED_MOST];
        private int size;

        int size() {
            return size;
        }

        void clear() {
            size = 0;
        }

        boolean add(int place, int letter, boolean wasSeen) {
            if (size >= SPIED_MOST) {
                return false;
            }
            places[size] = place;
            letters[size] = letter;
            seen[size] = wasSeen;
            size++;
            return true;
        }

        boolean fits(View view) {
            for (int i = 0; i < size; i++) {
                if ((view.letterAt(places[i]) == letters[i]) != seen[i]) {
                    return false;
                }
            }
            return true;
        }
    }
}
