/**
 * A board of places at which numbers were seen: what is between is guessed from neighbours by how
 * unlike numbers are by the way between them, with the weights of the least spread.
 *
 * All rows and whole numbers that a call needs are made by the constructor and used again, so that
 * no call makes an object.
 */
public final class NeighbourBoard {
    public static final int NONE = -1;

    private static final int DONE = 0;
    private static final int NO_SUCH = -2;
    private static final int LENGTH_BELOW_0 = -3;
    private static final int NOT_AS_TOLD = -4;
    private static final int NOTHING_THERE = -5;
    private static final int NO_SUCH_NUMBER = -6;
    private static final int NO_WEIGHTS = -7;
    private static final int FULL = -8;
    private static final int PLACE_TAKEN = -9;
    private static final int NOTHING_TO_GUESS_BY = -10;
    private static final int NOT_TOLD = -10000;

    private static final int EDGE = 20;
    private static final int FARTHEST = 4 * EDGE;
    private static final int MOST_SEEN = 8;
    private static final int MOST_ASKED = 6;
    private static final int MOST_LAWS = 6;
    private static final int LARGEST_NUMBER = 1000;
    private static final int LARGEST_DOUBT = 100;
    private static final int STEEPEST = 100;
    private static final int MOST_TABLED = 40;
    private static final int MOST_UNLIKE = 8000;
    private static final int MOST_UNLIKE_SUM = 16000;
    private static final int FIRST_WEIGHT = 10;

    private final Slots slots;
    private final Laws laws;
    private final Places asked;
    private final Equations equations;
    private final Grid grid;
    private final Answer given;
    private final Workbench workbench;
    private final Fraction result;
    private final Fraction off;
    private final Fraction greatestOff;
    private final Fraction leastOff;
    private Sights sights;
    private Sights spareSights;
    private int lawUsed;
    private int mostUsed;

    public NeighbourBoard() {
        slots = new Slots();
        laws = new Laws();
        asked = new Places(MOST_ASKED);
        equations = new Equations();
        grid = new Grid();
        given = new Answer();
        workbench = new Workbench();
        result = new Fraction();
        off = new Fraction();
        greatestOff = new Fraction();
        leastOff = new Fraction();
        sights = new Sights();
        spareSights = new Sights();
        lawUsed = NONE;
        mostUsed = MOST_SEEN;
    }

    public int row(int slot, int width, int n) {
        if (!slots.exists(slot) || width < 0 || width > Slots.WIDEST || n > Slots.LONGEST) {
            return NO_SUCH;
        }
        if (n < 0) {
            return LENGTH_BELOW_0;
        }
        slots.lay(slot, width, n);
        return DONE;
    }

    public boolean tear(int slot) {
        if (!slots.holds(slot)) {
            return false;
        }
        slots.empty(slot);
        return true;
    }

    public int write(int slot, int i, long v) {
        if (!slots.exists(slot)) {
            return NO_SUCH;
        }
        if (!slots.holds(slot)) {
            return NOTHING_THERE;
        }
        return slots.put(slot, i, v) ? DONE : NO_SUCH_NUMBER;
    }

    public int seen(int slot) {
        if (!slots.exists(slot)) {
            return NO_SUCH;
        }
        if (!slots.holds(slot)) {
            return NOTHING_THERE;
        }
        slots.startReading(slot);
        if (!readSights()) {
            return slots.refusal;
        }
        Sights old = sights;
        sights = spareSights;
        spareSights = old;
        given.there = false;
        return sights.places.size;
    }

    public int see(int x, int y, int number, int doubt) {
        if (!isPlace(x, y) || !isWithin(number, -LARGEST_NUMBER, LARGEST_NUMBER)
                || !isWithin(doubt, 0, LARGEST_DOUBT)) {
            return NOT_AS_TOLD;
        }
        if (sights.places.size >= MOST_SEEN) {
            return FULL;
        }
        if (sights.places.holds(x, y)) {
            return PLACE_TAKEN;
        }
        sights.add(x, y, number, doubt);
        given.there = false;
        return sights.places.size - 1;
    }

    public int drop(int i) {
        if (!sights.places.has(i)) {
            return NO_SUCH;
        }
        sights.remove(i);
        given.there = false;
        return sights.places.size;
    }

    public int straight(int a) {
        return addSloped(a, STEEPEST * FARTHEST);
    }

    public int capped(int a, int b) {
        return addSloped(a, b);
    }

    public int table(int slot) {
        if (!slots.exists(slot)) {
            return NO_SUCH;
        }
        if (laws.isFull()) {
            return FULL;
        }
        if (!slots.holds(slot)) {
            return NOTHING_THERE;
        }
        slots.startReading(slot);
        return readTable() ? laws.keepDraft() : slots.refusal;
    }

    public int sum(int a, int b) {
        if (!laws.has(a) || !laws.has(b)) {
            return NO_SUCH;
        }
        if (laws.isFull()) {
            return FULL;
        }
        return laws.draftBoth(a, b) ? laws.keepDraft() : NOT_AS_TOLD;
    }

    public int unlike(int l, int way) {
        return laws.has(l) && isWithin(way, 0, FARTHEST) ? laws.tell(l, way) : NONE;
    }

    public boolean use(int l) {
        if (l != NONE && !laws.has(l)) {
            return false;
        }
        lawUsed = l;
        given.there = false;
        return true;
    }

    public boolean nearest(int k) {
        if (!isWithin(k, 1, MOST_SEEN)) {
            return false;
        }
        mostUsed = k;
        return true;
    }

    public int ask(int x, int y) {
        if (!isPlace(x, y)) {
            return NOT_AS_TOLD;
        }
        if (!canGuess()) {
            return NOTHING_THERE;
        }
        asked.clear();
        asked.add(x, y);
        return guessForAsked();
    }

    public int mean(int slot) {
        if (!slots.exists(slot)) {
            return NO_SUCH;
        }
        if (!slots.holds(slot)) {
            return NOTHING_THERE;
        }
        slots.startReading(slot);
        if (!readAsked()) {
            return slots.refusal;
        }
        return canGuess() ? guessForAsked() : NOTHING_TO_GUESS_BY;
    }

    public boolean answer(int what) {
        if (!given.there) {
            return false;
        }
        if (what == 0) {
            return setResult(given.guess, given.bottom);
        }
        if (what == 1) {
            return setResult(given.spread, given.spreadBottom);
        }
        if (what == 2) {
            return setResult(given.price, given.bottom);
        }
        // what is looked at first, since what - FIRST_WEIGHT could wrap around.
        if (what < FIRST_WEIGHT || !sights.places.has(what - FIRST_WEIGHT)) {
            return false;
        }
        return setResult(given.weights[what - FIRST_WEIGHT], given.bottom);
    }

    public boolean leftOut(int i) {
        return leaveOut(lawUsed, i) && setResult(off.top, off.bottom);
    }

    public int worst() {
        return findWorst(lawUsed);
    }

    public int best() {
        int found = NONE;
        for (int law = 0; law < laws.size; law++) {
            if (findWorst(law) == NONE) {
                continue;
            }
            if (found == NONE || workbench.isLarger(leastOff, greatestOff)) {
                leastOff.copyFrom(greatestOff);
                found = law;
            }
        }
        return found;
    }

    public int allowed(int l) {
        if (!laws.has(l)) {
            return NONE;
        }
        equations.chooseAllBut(NONE, sights.places.size);
        equations.measure(sights, laws, l, false);
        equations.fillSquare(grid);
        return grid.judge(equations.unknowns());
    }

    public int pairs(int from, int to) {
        int found = 0;
        for (int i = 0; i < sights.places.size; i++) {
            for (int j = 0; j < i; j++) {
                if (isWithin(sights.places.way(i, j), from, to)) {
                    found++;
                }
            }
        }
        return found;
    }

    public boolean band(int from, int to) {
        int found = pairs(from, to);
        if (found == 0) {
            return false;
        }
        long squares = 0;
        for (int i = 0; i < sights.places.size; i++) {
            for (int j = 0; j < i; j++) {
                if (isWithin(sights.places.way(i, j), from, to)) {
                    long difference = sights.numbers[i] - sights.numbers[j];
                    squares += difference * difference;
                }
            }
        }
        off.top.put(squares);
        off.bottom.put(2L * found);
        return setResult(off.top, off.bottom);
    }

    public int look(int what) {
        if (what == 0) {
            return result.top.sign;
        }
        if (what == 1) {
            return Math.max(1, result.top.size);
        }
        return what == 2 ? result.bottom.size : NONE;
    }

    public int part(boolean bottom, int i) {
        Whole number = bottom ? result.bottom : result.top;
        return i >= 0 && i < number.size ? number.parts[i] : 0;
    }

    public int told(int i, int what) {
        if (!sights.places.has(i)) {
            return NOT_TOLD;
        }
        switch (what) {
            case 0:
                return sights.places.xs[i];
            case 1:
                return sights.places.ys[i];
            case 2:
                return sights.numbers[i];
            case 3:
                return sights.doubts[i];
            default:
                return NOT_TOLD;
        }
    }

    public int count(int what) {
        switch (what) {
            case 0:
                return sights.places.size;
            case 1:
                return laws.size;
            case 2:
                return lawUsed;
            case 3:
                return mostUsed;
            case 4:
                return slots.countHeld();
            case 5:
                return given.there ? 1 : 0;
            default:
                return NONE;
        }
    }

    private static boolean isWithin(int value, int low, int high) {
        return value >= low && value <= high;
    }

    private static boolean isPlace(int x, int y) {
        return isWithin(x, -EDGE, EDGE) && isWithin(y, -EDGE, EDGE);
    }

    /** STRAIGHT too: its cap is what its steepest slope comes to on the farthest way. */
    private int addSloped(int slope, int cap) {
        if (!isWithin(slope, 1, STEEPEST) || !isWithin(cap, 1, MOST_UNLIKE)) {
            return NOT_AS_TOLD;
        }
        if (laws.isFull()) {
            return FULL;
        }
        laws.draftSlope(slope, cap);
        return laws.keepDraft();
    }

    private boolean readSights() {
        spareSights.places.clear();
        if (!slots.readNext(0, MOST_SEEN)) {
            return false;
        }
        int many = slots.value;
        for (int i = 0; i < many; i++) {
            if (!readSight()) {
                return false;
            }
        }
        return true;
    }

    private boolean readSight() {
        if (!slots.readPlace()) {
            return false;
        }
        if (spareSights.places.holds(slots.x, slots.y)) {
            slots.refusal = NOT_AS_TOLD;
            return false;
        }
        if (!slots.readNext(-LARGEST_NUMBER, LARGEST_NUMBER)) {
            return false;
        }
        int number = slots.value;
        if (!slots.readNext(0, LARGEST_DOUBT)) {
            return false;
        }
        spareSights.add(slots.x, slots.y, number, slots.value);
        return true;
    }

    private boolean readTable() {
        if (!slots.readNext(1, MOST_TABLED)) {
            return false;
        }
        int many = slots.value;
        for (int way = 1; way <= many; way++) {
            if (!slots.readNext(0, MOST_UNLIKE)) {
                return false;
            }
            laws.draft(way, slots.value);
        }
        for (int way = many + 1; way <= FARTHEST; way++) {
            laws.draft(way, slots.value);
        }
        return true;
    }

    private boolean readAsked() {
        asked.clear();
        if (!slots.readNext(1, MOST_ASKED)) {
            return false;
        }
        int many = slots.value;
        for (int i = 0; i < many; i++) {
            if (!slots.readPlace()) {
                return false;
            }
            asked.add(slots.x, slots.y);
        }
        return true;
    }

    private boolean canGuess() {
        return lawUsed != NONE && sights.places.size > 0;
    }

    private int guessForAsked() {
        equations.chooseNearest(sights.places, asked, mostUsed);
        equations.prepare(sights, asked, laws, lawUsed, grid);
        if (!grid.solve(equations.unknowns())) {
            return NO_WEIGHTS;
        }
        given.take(equations, grid, sights, equations.unlikeWithin(asked, laws, lawUsed));
        return DONE;
    }

    private boolean leaveOut(int law, int i) {
        Places places = sights.places;
        if (law == NONE || !places.has(i) || places.size < 2) {
            return false;
        }
        asked.clear();
        asked.add(places.xs[i], places.ys[i]);
        equations.chooseAllBut(i, places.size);
        equations.prepare(sights, asked, laws, law, grid);
        if (!grid.solve(equations.unknowns())) {
            return false;
        }
        equations.tellOff(grid, sights, i, off);
        return true;
    }

    /** Leaves in greatestOff by how much the one that it finds is off. */
    private int findWorst(int law) {
        int found = NONE;
        for (int i = 0; i < sights.places.size; i++) {
            if (!leaveOut(law, i)) {
                return NONE;
            }
            if (found == NONE || workbench.isLarger(off, greatestOff)) {
                greatestOff.copyFrom(off);
                found = i;
            }
        }
        return found;
    }

    private boolean setResult(Whole top, Whole bottom) {
        result.top.copyFrom(top);
        result.bottom.copyFrom(bottom);
        workbench.reduce(result);
        return true;
    }

    /**
     * The rows of numbers. One of them is read at a time, one number after the other, and what could
     * not be read leaves why.
     */
    private static final class Slots {
        private static final int MANY = 8;
        private static final int LONGEST = 60;
        private static final int WIDEST = 3;

        private final long[] numbers = new long[MANY * LONGEST];
        private final int[] widths = new int[MANY];
        private final int[] lengths = new int[MANY];
        private int reading;
        private int at;
        private int value;
        private int x;
        private int y;
        private int refusal;

        Slots() {
            for (int slot = 0; slot < MANY; slot++) {
                lengths[slot] = NONE;
            }
        }

        boolean exists(int slot) {
            return slot >= 0 && slot < MANY;
        }

        boolean holds(int slot) {
            return exists(slot) && lengths[slot] != NONE;
        }

        boolean holdsNumber(int slot, int i) {
            return holds(slot) && i >= 0 && i < lengths[slot];
        }

        void lay(int slot, int width, int length) {
            if (!exists(slot)) {
                return;
            }
            widths[slot] = width;
            lengths[slot] = length;
            for (int i = 0; i < length && i < LONGEST; i++) {
                numbers[slot * LONGEST + i] = 0;
            }
        }

        void empty(int slot) {
            if (exists(slot)) {
                lengths[slot] = NONE;
            }
        }

        boolean put(int slot, int i, long v) {
            if (!holdsNumber(slot, i)) {
                return false;
            }
            numbers[slot * LONGEST + i] = cut(v, widths[slot]);
            return true;
        }

        int countHeld() {
            int held = 0;
            for (int slot = 0; slot < MANY; slot++) {
                if (holds(slot)) {
                    held++;
                }
            }
            return held;
        }

        void startReading(int slot) {
            reading = slot;
            at = 0;
            refusal = DONE;
        }

        boolean readNext(int low, int high) {
            if (!holdsNumber(reading, at)) {
                refusal = NO_SUCH_NUMBER;
                return false;
            }
            // Held against the bounds as a long: cut to an int, it could come to lie within them.
            long number = numbers[reading * LONGEST + at];
            if (number < low || number > high) {
                refusal = NOT_AS_TOLD;
                return false;
            }
            value = (int) number;
            at++;
            return true;
        }

        boolean readPlace() {
            if (!readNext(-EDGE, EDGE)) {
                return false;
            }
            x = value;
            if (!readNext(-EDGE, EDGE)) {
                return false;
            }
            y = value;
            return true;
        }

        private static long cut(long v, int width) {
            switch (width) {
                case 0:
                    return (byte) v;
                case 1:
                    return (short) v;
                case 2:
                    return (int) v;
                default:
                    return v;
            }
        }
    }

    private static final class Places {
        private final int[] xs;
        private final int[] ys;
        private int size;

        Places(int most) {
            int room = Math.max(0, most);
            xs = new int[room];
            ys = new int[room];
        }

        void clear() {
            size = 0;
        }

        boolean has(int i) {
            return i >= 0 && i < size;
        }

        boolean holds(int x, int y) {
            for (int i = 0; i < size; i++) {
                if (xs[i] == x && ys[i] == y) {
                    return true;
                }
            }
            return false;
        }

        void add(int x, int y) {
            if (size < xs.length) {
                xs[size] = x;
                ys[size] = y;
                size++;
            }
        }

        void remove(int i) {
            if (!has(i)) {
                return;
            }
            for (int j = i + 1; j < size; j++) {
                xs[j - 1] = xs[j];
                ys[j - 1] = ys[j];
            }
            size--;
        }

        int way(int i, int j) {
            return has(j) ? wayTo(i, xs[j], ys[j]) : 0;
        }

        int wayTo(int i, int x, int y) {
            return has(i) ? Math.abs(xs[i] - x) + Math.abs(ys[i] - y) : 0;
        }
    }

    /** What is SEEN. */
    private static final class Sights {
        private final Places places = new Places(MOST_SEEN);
        private final int[] numbers = new int[MOST_SEEN];
        private final int[] doubts = new int[MOST_SEEN];

        void add(int x, int y, int number, int doubt) {
            int i = places.size;
            if (i < MOST_SEEN) {
                places.add(x, y);
                numbers[i] = number;
                doubts[i] = doubt;
            }
        }

        void remove(int i) {
            if (!places.has(i)) {
                return;
            }
            for (int j = i + 1; j < places.size; j++) {
                numbers[j - 1] = numbers[j];
                doubts[j - 1] = doubts[j];
            }
            places.remove(i);
        }
    }

    /**
     * Every kind of law is kept as what it tells for each way, so that none has to be asked for its
     * kind. The row behind the last law is a draft: it counts only once it is kept.
     */
    private static final class Laws {
        private static final int ROW = FARTHEST + 1;

        private final int[] tells = new int[MOST_LAWS * ROW];
        private int size;

        boolean has(int law) {
            return law >= 0 && law < size;
        }

        boolean isFull() {
            return size >= MOST_LAWS;
        }

        int tell(int law, int way) {
            return has(law) && way > 0 && way <= FARTHEST ? tells[law * ROW + way] : 0;
        }

        void draft(int way, int value) {
            if (!isFull() && way > 0 && way <= FARTHEST) {
                tells[size * ROW + way] = value;
            }
        }

        void draftSlope(int slope, int cap) {
            for (int way = 1; way <= FARTHEST; way++) {
                draft(way, Math.min(slope * way, cap));
            }
        }

        boolean draftBoth(int a, int b) {
            for (int way = 1; way <= FARTHEST; way++) {
                int both = tell(a, way) + tell(b, way);
                if (both > MOST_UNLIKE_SUM) {
                    return false;
                }
                draft(way, both);
            }
            return true;
        }

        int keepDraft() {
            if (isFull()) {
                return FULL;
            }
            size++;
            return size - 1;
        }
    }

    /**
     * The equations of the weights, freed of the price and of the first weight: the first equation is
     * taken from each other one (the price falls out), and the first weight is what the others leave
     * of 1. What is left is a square of at most seven, which is also the one that tells whether a law
     * is ALLOWED. All is taken as often as places are asked for, so that it stays whole numbers.
     */
    private static final class Equations {
        private final int[] chosen = new int[MOST_SEEN];
        private final int[] apart = new int[MOST_SEEN * MOST_SEEN];
        private final int[] reach = new int[MOST_SEEN];
        private final int[] sums = new int[MOST_SEEN];
        private int size;
        private int askedFor;

        int unknowns() {
            return Math.max(0, size - 1);
        }

        void chooseAllBut(int left, int many) {
            size = 0;
            for (int i = 0; i < many && i < MOST_SEEN; i++) {
                if (i != left) {
                    chosen[size] = i;
                    size++;
                }
            }
        }

        void chooseNearest(Places places, Places asked, int most) {
            for (int i = 0; i < places.size && i < MOST_SEEN; i++) {
                sums[i] = 0;
                for (int q = 0; q < asked.size; q++) {
                    sums[i] += places.wayTo(i, asked.xs[q], asked.ys[q]);
                }
            }
            size = 0;
            for (int i = 0; i < places.size && i < MOST_SEEN; i++) {
                if (countNearer(i, places.size) < most) {
                    chosen[size] = i;
                    size++;
                }
            }
        }

        private int countNearer(int i, int many) {
            int nearer = 0;
            for (int j = 0; j < many && j < MOST_SEEN; j++) {
                if (sums[j] < sums[i] || (sums[j] == sums[i] && j < i)) {
                    nearer++;
                }
            }
            return nearer;
        }

        void prepare(Sights sights, Places asked, Laws laws, int law, Grid grid) {
            measure(sights, laws, law, true);
            reachOut(sights.places, asked, laws, law);
            fillSquare(grid);
            fillRight(grid);
        }

        void measure(Sights sights, Laws laws, int law, boolean doubted) {
            for (int i = 0; i < size; i++) {
                for (int j = 0; j < size; j++) {
                    int way = sights.places.way(chosen[i], chosen[j]);
                    apart[i * MOST_SEEN + j] = laws.tell(law, way);
                }
                if (doubted) {
                    apart[i * MOST_SEEN + i] = -sights.doubts[chosen[i]];
                }
            }
        }

        private void reachOut(Places places, Places asked, Laws laws, int law) {
            askedFor = asked.size;
            for (int i = 0; i < size; i++) {
                reach[i] = 0;
                for (int q = 0; q < asked.size; q++) {
                    int way = places.wayTo(chosen[i], asked.xs[q], asked.ys[q]);
                    reach[i] += laws.tell(law, way);
                }
            }
        }

        int unlikeWithin(Places asked, Laws laws, int law) {
            int all = 0;
            for (int p = 0; p < asked.size; p++) {
                for (int q = 0; q < asked.size; q++) {
                    all += laws.tell(law, asked.way(p, q));
                }
            }
            return all;
        }

        void fillSquare(Grid grid) {
            for (int i = 1; i < size; i++) {
                for (int j = 1; j < size; j++) {
                    int value = apart[i * MOST_SEEN] + apart[j]
                            - apart[i * MOST_SEEN + j] - apart[0];
                    grid.put(i - 1, j - 1, value);
                }
            }
        }

        private void fillRight(Grid grid) {
            for (int i = 1; i < size; i++) {
                int value = reach[0] - reach[i] + askedFor * (apart[i * MOST_SEEN] - apart[0]);
                grid.put(i - 1, size - 1, value);
            }
        }

        /** Of one that was left out: how far its number is from what the chosen ones guess. */
        void tellOff(Grid grid, Sights sights, int left, Fraction off) {
            int[] numbers = sights.numbers;
            if (size < 1 || !sights.places.has(left)) {
                return;
            }
            int first = numbers[chosen[0]];
            off.bottom.copyFrom(grid.bottom);
            off.top.put(0);
            off.top.addTimes(grid.bottom, numbers[left] - first);
            for (int i = 1; i < size; i++) {
                off.top.addTimes(grid.cell(i - 1, size - 1), first - numbers[chosen[i]]);
            }
        }
    }

    /** Whole numbers in rows and columns; one column more than rows, for the right sides. */
    private static final class Grid {
        private static final int ROWS = MOST_SEEN - 1;
        private static final int COLUMNS = MOST_SEEN;

        private final Whole[] cells = new Whole[ROWS * COLUMNS];
        private final Whole outside = new Whole();
        private final Whole bottom = new Whole();
        private final Whole product = new Whole();
        private final Whole otherProduct = new Whole();
        private final Divider divider = new Divider();

        Grid() {
            for (int i = 0; i < cells.length; i++) {
                cells[i] = new Whole();
            }
        }

        /** The cell outside stands for all that are not there; nothing depends on what it has. */
        Whole cell(int row, int column) {
            boolean there = row >= 0 && row < ROWS && column >= 0 && column < COLUMNS;
            return there ? cells[row * COLUMNS + column] : outside;
        }

        void put(int row, int column, long value) {
            cell(row, column).put(value);
        }

        /** If true, unknown i is the cell behind row i by the bottom. */
        boolean solve(int unknowns) {
            bottom.put(1);
            for (int k = 0; k < unknowns; k++) {
                if (!bringPivot(k, unknowns)) {
                    return false;
                }
                clearColumn(k, 0, unknowns, unknowns + 1);
                bottom.copyFrom(cell(k, k));
            }
            return true;
        }

        /**
         * Of a square that is alike both ways round: 2 if the sum of c(i) c(j) cell(i, j) is above 0
         * for all c but zeros, 1 if it is never below 0, else 0. A 0 on the diagonal is passed over,
         * as its row must be all 0 then.
         */
        int judge(int size) {
            bottom.put(1);
            int kind = 2;
            for (int k = 0; k < size; k++) {
                int sign = cell(k, k).sign;
                if (sign < 0 || (sign == 0 && !isZeroBehind(k, size))) {
                    return 0;
                }
                if (sign == 0) {
                    kind = 1;
                } else {
                    clearColumn(k, k + 1, size, size);
                    bottom.copyFrom(cell(k, k));
                }
            }
            return kind;
        }

        private boolean isZeroBehind(int k, int columns) {
            for (int column = k + 1; column < columns; column++) {
                if (cell(k, column).sign != 0) {
                    return false;
                }
            }
            return true;
        }

        private boolean bringPivot(int k, int rows) {
            int found = NONE;
            for (int row = k; row < rows && found == NONE; row++) {
                if (cell(row, k).sign != 0) {
                    found = row;
                }
            }
            if (found == NONE || found >= ROWS) {
                return false;
            }
            for (int column = 0; column < COLUMNS; column++) {
                Whole held = cells[k * COLUMNS + column];
                cells[k * COLUMNS + column] = cells[found * COLUMNS + column];
                cells[found * COLUMNS + column] = held;
            }
            return true;
        }

        /**
         * Each cell stays whole: what it becomes is a determinant, times the pivot before (Bareiss).
         * Cells of the column itself are not looked at again and keep what they have.
         */
        private void clearColumn(int k, int firstRow, int rows, int columns) {
            Whole pivot = cell(k, k);
            long by = bottom.lowest();
            for (int row = firstRow; row < rows; row++) {
                if (row == k) {
                    continue;
                }
                Whole lead = cell(row, k);
                boolean small = by != 0 && bottom.size < 2 && pivot.size < 2 && lead.size < 2;
                for (int column = k + 1; column < columns; column++) {
                    Whole at = cell(row, column);
                    Whole above = cell(k, column);
                    if (small && at.size < 2 && above.size < 2) {
                        // Most cells come by here; products of two parts have 18 digits at most.
                        long value = pivot.lowest() * at.lowest() - lead.lowest() * above.lowest();
                        at.put(value / by);
                        continue;
                    }
                    product.multiply(pivot, at);
                    otherProduct.multiply(lead, above);
                    product.addTimes(otherProduct, -1);
                    divider.divide(product, bottom, at);
                }
            }
        }
    }

    /** The ANSWER; weights, guess and price are over one bottom. */
    private static final class Answer {
        private final Whole[] weights = new Whole[MOST_SEEN];
        private final Whole guess = new Whole();
        private final Whole price = new Whole();
        private final Whole bottom = new Whole();
        private final Whole spread = new Whole();
        private final Whole spreadBottom = new Whole();
        private boolean there;

        Answer() {
            for (int i = 0; i < MOST_SEEN; i++) {
                weights[i] = new Whole();
            }
        }

        void take(Equations equations, Grid grid, Sights sights, int unlikeWithin) {
            there = true;
            bottom.put(0);
            bottom.addTimes(grid.bottom, equations.askedFor);
            spreadBottom.put(0);
            spreadBottom.addTimes(bottom, equations.askedFor);
            takeWeights(equations, grid);
            guess.put(0);
            price.put(0);
            price.addTimes(grid.bottom, equations.reach[0]);
            spread.put(0);
            spread.addTimes(grid.bottom, -unlikeWithin);
            for (int i = 0; i < equations.size; i++) {
                int number = equations.chosen[i];
                guess.addTimes(weights[number], sights.numbers[number]);
                price.addTimes(weights[number], -equations.apart[i]);
                spread.addTimes(weights[number], equations.reach[i]);
            }
            spread.addTimes(price, equations.askedFor);
        }

        private void takeWeights(Equations equations, Grid grid) {
            for (int i = 0; i < MOST_SEEN; i++) {
                weights[i].put(0);
            }
            Whole first = weights[equations.chosen[0]];
            first.copyFrom(bottom);
            for (int i = 1; i < equations.size; i++) {
                Whole weight = weights[equations.chosen[i]];
                weight.copyFrom(grid.cell(i - 1, equations.size - 1));
                first.addTimes(weight, -1);
            }
        }
    }

    private static final class Fraction {
        private final Whole top = new Whole();
        private final Whole bottom = new Whole();

        Fraction() {
            bottom.put(1);
        }

        void copyFrom(Fraction other) {
            top.copyFrom(other.top);
            bottom.copyFrom(other.bottom);
        }
    }

    /** Brings fractions to lowest terms and compares their sizes. */
    private static final class Workbench {
        private static final int MOST_STEPS = 1000000;

        private final Divider divider = new Divider();
        private final Whole left = new Whole();
        private final Whole right = new Whole();
        private final Whole quotient = new Whole();

        boolean isLarger(Fraction a, Fraction b) {
            left.multiply(a.top, b.bottom);
            right.multiply(b.top, a.bottom);
            return left.compareSize(right) > 0;
        }

        void reduce(Fraction fraction) {
            Whole shared = findShared(fraction);
            if (shared.size == 0) {
                return;
            }
            // With the bottom's sign it turns the bottom above 0, and the top along with it.
            shared.sign = fraction.bottom.sign;
            divider.divide(fraction.top, shared, fraction.top);
            divider.divide(fraction.bottom, shared, fraction.bottom);
        }

        private Whole findShared(Fraction fraction) {
            Whole larger = left;
            Whole smaller = right;
            larger.copyFrom(fraction.top);
            smaller.copyFrom(fraction.bottom);
            for (int step = 0; step < MOST_STEPS && smaller.size > 0; step++) {
                divider.divide(larger, smaller, quotient);
                divider.takeRest(larger);
                Whole held = larger;
                larger = smaller;
                smaller = held;
            }
            return larger;
        }
    }

    /**
     * A whole number in parts of nine digits, the lowest first; parts from size on are 0. The largest
     * that any run can need are products of two determinants, one of seven rows (below 10^36) and one
     * of six (below 10^31), and the products by which two fractions are compared are smaller; so they
     * fit with room to spare.
     */
    private static final class Whole {
        private static final int MOST_PARTS = 12;
        private static final long BASE = 1000000000L;

        private final int[] parts = new int[MOST_PARTS];
        private int size;
        private int sign;

        void put(long value) {
            clear();
            long rest = value;
            for (int i = 0; i < 3 && rest != 0; i++) {
                parts[i] = (int) Math.abs(rest % BASE);
                rest = rest / BASE;
            }
            trim(3, Long.signum(value));
        }

        /** The lowest part with the sign: the number itself, if it has no more parts than one. */
        long lowest() {
            return (long) sign * parts[0];
        }

        void copyFrom(Whole other) {
            int length = Math.max(size, other.size);
            for (int i = 0; i < length && i < MOST_PARTS; i++) {
                parts[i] = other.parts[i];
            }
            size = other.size;
            sign = other.sign;
        }

        int compareSize(Whole other) {
            for (int i = MOST_PARTS - 1; i >= 0; i--) {
                if (parts[i] != other.parts[i]) {
                    return parts[i] > other.parts[i] ? 1 : -1;
                }
            }
            return 0;
        }

        /** This must be another one than a and b. */
        void multiply(Whole a, Whole b) {
            clear();
            for (int i = 0; i < a.size; i++) {
                long factor = a.parts[i];
                long carry = 0;
                for (int j = 0; j < b.size && i + j < MOST_PARTS; j++) {
                    long value = parts[i + j] + factor * b.parts[j] + carry;
                    carry = value / BASE;
                    parts[i + j] = (int) (value - carry * BASE);
                }
                if (i + b.size < MOST_PARTS) {
                    parts[i + b.size] = (int) carry;
                }
            }
            trim(a.size + b.size, a.sign * b.sign);
        }

        /** This must be another one than the other; the factor is an int, so that no part wraps. */
        void addTimes(Whole other, int factor) {
            int length = Math.min(MOST_PARTS, Math.max(size, other.size) + 2);
            long signedFactor = (long) factor * other.sign;
            long carry = 0;
            for (int i = 0; i < length; i++) {
                long value = carry + sign * parts[i] + signedFactor * other.parts[i];
                carry = value / BASE;
                long part = value - carry * BASE;
                if (part < 0) {
                    part += BASE;
                    carry--;
                }
                parts[i] = (int) part;
            }
            if (carry < 0) {
                complement(length);
            }
            trim(length, carry < 0 ? -1 : 1);
        }

        private void complement(int length) {
            long borrow = 0;
            for (int i = 0; i < length; i++) {
                long part = -borrow - parts[i];
                borrow = part < 0 ? 1 : 0;
                parts[i] = (int) (part + borrow * BASE);
            }
        }

        private void clear() {
            for (int i = 0; i < size; i++) {
                parts[i] = 0;
            }
            size = 0;
        }

        private void trim(int length, int signIfAny) {
            size = length < 0 ? 0 : length > MOST_PARTS ? MOST_PARTS : length;
            while (size > 0 && parts[size - 1] == 0) {
                size--;
            }
            sign = size == 0 ? 0 : signIfAny;
        }
    }

    /**
     * Long division. By two parts or more both numbers are scaled first, so that what is guessed for
     * a part of the quotient is too high by 2 at most.
     */
    private static final class Divider {
        private static final int MOST_FIXES = 3;

        private final int[] rest = new int[Whole.MOST_PARTS + 1];
        private final int[] by = new int[Whole.MOST_PARTS + 1];
        private int length;
        private long scale;

        /** The quotient may be the top itself. A bottom of 0 gives 0. */
        void divide(Whole top, Whole bottom, Whole quotient) {
            int last = top.size - bottom.size;
            int sign = top.sign * bottom.sign;
            length = bottom.size;
            if (length < 2) {
                divideByPart(top, bottom.parts[0], quotient);
                quotient.trim(top.size, sign);
                return;
            }
            scale = Whole.BASE / (bottom.parts[length - 1] + 1L);
            copyScaled(top, rest, Math.max(top.size, length) + 1);
            copyScaled(bottom, by, length + 1);
            quotient.clear();
            for (int at = last; at >= 0; at--) {
                long part = guessPart(at);
                if (takeAway(at, part)) {
                    part--;
                    giveBack(at);
                }
                quotient.parts[at] = (int) part;
            }
            quotient.trim(last + 1, sign);
        }

        /** What the last division left, without its sign. */
        void takeRest(Whole into) {
            into.clear();
            long carry = 0;
            for (int i = length - 1; i >= 0 && scale > 0; i--) {
                long value = carry * Whole.BASE + rest[i];
                long part = value / scale;
                into.parts[i] = (int) part;
                carry = value - part * scale;
            }
            into.trim(length, 1);
        }

        private void divideByPart(Whole top, long divisor, Whole quotient) {
            long carry = 0;
            // The quotient's own size counts too: its old parts must not stay above.
            for (int i = Math.max(top.size, quotient.size) - 1; i >= 0; i--) {
                long value = carry * Whole.BASE + top.parts[i];
                long part = divisor > 0 ? value / divisor : 0;
                quotient.parts[i] = (int) part;
                carry = divisor > 0 ? value - part * divisor : 0;
            }
            scale = 1;
            rest[0] = (int) carry;
        }

        private void copyScaled(Whole number, int[] into, int many) {
            long carry = 0;
            for (int i = 0; i < many && i < into.length; i++) {
                long value = carry + (i < number.size ? number.parts[i] * scale : 0);
                carry = value / Whole.BASE;
                into[i] = (int) (value - carry * Whole.BASE);
            }
        }

        private long guessPart(int at) {
            int high = at + length;
            long lead = by[length - 1];
            if (lead == 0) {
                return 0;
            }
            long two = rest[high] * Whole.BASE + rest[high - 1];
            long guess = two / lead;
            long left = two - guess * lead;
            for (int fix = 0; fix < MOST_FIXES && left < Whole.BASE; fix++) {
                if (guess < Whole.BASE
                        && guess * by[length - 2] <= left * Whole.BASE + rest[high - 2]) {
                    break;
                }
                guess--;
                left += lead;
            }
            return guess;
        }

        /** Whether more was taken than was there. */
        private boolean takeAway(int at, long times) {
            long carry = 0;
            for (int i = 0; i <= length; i++) {
                long value = rest[at + i] + carry - times * by[i];
                carry = value / Whole.BASE;
                long part = value - carry * Whole.BASE;
                if (part < 0) {
                    part += Whole.BASE;
                    carry--;
                }
                rest[at + i] = (int) part;
            }
            return carry < 0;
        }

        private void giveBack(int at) {
            long carry = 0;
            for (int i = 0; i <= length; i++) {
                long value = rest[at + i] + carry + by[i];
                carry = value / Whole.BASE;
                rest[at + i] = (int) (value - carry * Whole.BASE);
            }
        }
    }
}
