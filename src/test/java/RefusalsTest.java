import java.util.ArrayList;
import java.util.LinkedHashMap;
import java.util.List;
import java.util.Map;
import java.util.function.Predicate;
import java.util.function.Supplier;
import java.util.function.ToIntFunction;

/**
 * "Each call that is refused gives the first of the refusals told of it, and changes nothing (RESULT
 * and ANSWER stay)." Each refused call is made on one of two boards that are alike; whatever can be
 * read must be alike of both then. A test for each promise, and what a call that is taken leaves.
 */
public final class RefusalsTest {
    private static final int MIN = Integer.MIN_VALUE;
    private static final int MAX = Integer.MAX_VALUE;
    private static final Dues dues = new Dues();

    /** Ways to read a board, each with a board of its own, as they change it and 512 calls are all. */
    private static final Map<String, ToIntFunction<Reader>> VIEWS = new LinkedHashMap<>();

    /** The boards on which calls are refused. */
    private static final Map<String, Supplier<NeighbourBoard>> BOARDS = new LinkedHashMap<>();

    static {
        VIEWS.put("RESULT", Reader::readResult);
        VIEWS.put("ANSWER", Reader::readAnswer);
        VIEWS.put("SEEN", Reader::readSeen);
        VIEWS.put("LAWS", r -> r.readLaws(0, 40));
        VIEWS.put("LAWS far", r -> r.readLaws(41, 80));
        VIEWS.put("USED", r -> r.add(r.b.count(2)));
        VIEWS.put("NEAREST", r -> r.add(r.b.count(3)));
        VIEWS.put("next ANSWER", Reader::readNextAnswer);
        VIEWS.put("next LAW", Reader::readNextLaw);
        VIEWS.put("next SEEN", Reader::readNextSeen);
        VIEWS.put("SLOTS as SEEN", Reader::readSlotsAsSeen);
        VIEWS.put("SLOTS as MEANS", Reader::readSlotsAsMeans);
        VIEWS.put("SLOTS as TABLES", Reader::readSlotsAsTables);
        VIEWS.put("lengths of ROWS", Reader::readLengths);
        VIEWS.put("WIDTHS of ROWS", Reader::readWidths);
        BOARDS.put("a new one", NeighbourBoard::new);
        BOARDS.put("a rich one", RefusalsTest::rich);
        BOARDS.put("a full one", RefusalsTest::full);
        BOARDS.put("a singular one", RefusalsTest::singular);
        BOARDS.put("one without a LAW USED", RefusalsTest::bare);
        BOARDS.put("one with nothing SEEN", RefusalsTest::unseen);
        BOARDS.put("one with one SEEN", RefusalsTest::single);
    }

    public static void main(String[] args) throws ReflectiveOperationException {
        dues.runAll(RefusalsTest.class);
        dues.end();
    }

    /** What a board answers, one number after the other. */
    private static final class Reader {
        final NeighbourBoard b;
        final List<Integer> read = new ArrayList<>();

        Reader(NeighbourBoard b) {
            this.b = b;
        }

        int add(int... numbers) {
            for (int number : numbers) read.add(number);
            return read.size();
        }

        int add(boolean truth) {
            return add(truth ? 1 : 0);
        }

        int readResult() {
            for (int what = -1; what <= 3; what++) add(b.look(what));
            for (int i = -1; i <= 4; i++) add(b.part(false, i), b.part(true, i));
            return read.size();
        }

        int readAnswer() {
            add(b.count(5));
            for (int what = 0; what < 19; what++) {
                add(b.answer(what));
                if (what < 3 || what > 9) readResult();
            }
            return read.size();
        }

        int readSeen() {
            add(b.count(0));
            for (int i = 0; i < 9; i++) {
                for (int what = 0; what < 4; what++) add(b.told(i, what));
            }
            return add(b.pairs(0, 80));
        }

        int readLaws(int from, int to) {
            add(b.count(1));
            for (int l = 0; l < 6; l++) {
                for (int way = from; way <= to; way++) add(b.unlike(l, way));
            }
            return read.size();
        }

        int readNextAnswer() {
            add(b.ask(3, -2));
            return readAnswer();
        }

        int readNextLaw() {
            int l = b.straight(3);
            for (int way = 0; way <= 80; way++) add(b.unlike(l, way));
            return add(l);
        }

        int readNextSeen() {
            add(b.see(-11, 12, 13, 14));
            return readSeen();
        }

        /** So that what is read of the SLOTS does not hang on what else there is. */
        void seeTwoAlone() {
            for (int i = 0; i < 8; i++) b.drop(0);
            b.see(-11, 12, 13, 14);
            b.see(3, 2, 1, 0);
        }

        int readSlotsAsSeen() {
            add(b.count(4));
            seeTwoAlone();
            for (int slot = 0; slot < 8; slot++) {
                add(b.seen(slot));
                readSeen();
            }
            return read.size();
        }

        int readSlotsAsMeans() {
            seeTwoAlone();
            b.straight(1);
            b.use(0);
            b.nearest(8);
            b.band(0, 80);
            for (int slot = 0; slot < 8; slot++) {
                add(b.mean(slot));
                add(b.answer(1));
                readResult();
                add(b.answer(2));
                readResult();
            }
            return read.size();
        }

        int readSlotsAsTables() {
            for (int slot = 0; slot < 8; slot++) {
                int l = b.table(slot);
                for (int way = 1; way <= 41; way++) add(b.unlike(l, way));
                add(l);
            }
            return read.size();
        }

        int readLengths() {
            int[] numbers = {-1, 0, 1, 2, 3, 4, 5, 6, 8, 9, 10, 32, 33, 34, 40, 41, 42, 58, 59, 60};
            for (int slot = 0; slot < 8; slot++) {
                for (int i : numbers) add(b.write(slot, i, 1));
            }
            return read.size();
        }

        int readWidths() {
            long[] beyond = {(1 << 8) + 1, (1 << 16) + 1, (1L << 32) + 1};
            for (int slot = 0; slot < 8; slot++) {
                for (int i = 0; i < 5; i++) b.write(slot, i, 1);
                for (long v : beyond) {
                    b.write(slot, 1, v);
                    add(b.seen(slot));
                }
            }
            return read.size();
        }
    }

    /** SLOTS 0, 1, 2 as SEEN, as a MEAN, as a TABLE; 3 of no numbers; 4 ends early; 5 amiss; 6, 7 empty. */
    private static void laySlots(NeighbourBoard b) {
        Dues.lay(b, 0, 1, 2, 1, 1, 100, 3, 2, 2, -100, 4);
        Dues.lay(b, 1, 0, 2, 1, 0, 3, 0);
        Dues.lay(b, 2, 2, 3, 5, 6, 7);
        b.row(3, 3, 0);
        Dues.lay(b, 4, 3, 2, 5);
        Dues.lay(b, 5, 3, 1, -21, 0, 0, 0);
    }

    private static NeighbourBoard rich() {
        NeighbourBoard b = new NeighbourBoard();
        laySlots(b);
        b.see(0, 0, 10, 0);
        b.see(4, 0, 20, 2);
        b.see(1, 3, -30, 5);
        b.straight(2);
        b.capped(3, 7);
        b.table(2);
        b.use(0);
        b.nearest(2);
        b.ask(2, 1);
        b.leftOut(1);
        return b;
    }

    private static NeighbourBoard full() {
        NeighbourBoard b = new NeighbourBoard();
        laySlots(b);
        b.row(6, 2, 60);
        b.row(7, 3, 60);
        int[][] places = {{0, 0}, {4, 0}, {1, 3}, {-20, 20}, {20, -20}, {7, 7}, {-5, 2}, {3, -9}};
        for (int i = 0; i < 8; i++) b.see(places[i][0], places[i][1], 100 * i - 350, 10 * i);
        b.straight(2);
        b.capped(3, 7);
        b.table(2);
        b.sum(0, 1);
        b.straight(100);
        b.sum(4, 4);
        b.use(3);
        b.nearest(5);
        b.mean(1);
        b.answer(1);
        return b;
    }

    /** The ANSWER is by one alone; by more there are no WEIGHTS. */
    private static NeighbourBoard singular() {
        NeighbourBoard b = new NeighbourBoard();
        laySlots(b);
        b.see(0, 0, 10, 0);
        b.see(4, 0, 20, 0);
        b.see(1, 3, -30, 0);
        Dues.lay(b, 7, 0, 1, 0);
        b.table(7);
        b.straight(1);
        b.use(0);
        b.nearest(1);
        b.ask(4, 1);
        b.nearest(8);
        b.band(0, 80);
        return b;
    }

    private static NeighbourBoard bare() {
        NeighbourBoard b = new NeighbourBoard();
        laySlots(b);
        b.see(0, 0, 10, 0);
        b.see(4, 0, 23, 0);
        b.straight(1);
        b.band(0, 80);
        return b;
    }

    private static NeighbourBoard unseen() {
        NeighbourBoard b = bare();
        b.drop(0);
        b.drop(0);
        b.use(0);
        return b;
    }

    private static NeighbourBoard single() {
        NeighbourBoard b = bare();
        b.drop(0);
        b.use(0);
        b.ask(0, 0);
        return b;
    }

    private static void same(String on, Supplier<NeighbourBoard> make, String call, int due,
            ToIntFunction<NeighbourBoard> made, Predicate<String> views) {
        int compared = 0;
        for (Map.Entry<String, ToIntFunction<Reader>> view : VIEWS.entrySet()) {
            if (!views.test(view.getKey())) continue;
            Reader called = new Reader(make.get());
            dues.due(call + " on " + on, made.applyAsInt(called.b), due);
            Reader other = new Reader(make.get());
            view.getValue().applyAsInt(called);
            view.getValue().applyAsInt(other);
            dues.due(view.getKey() + " after " + call + " on " + on + " is the same", called.read.equals(other.read), true);
            compared++;
        }
        dues.due(call + ": views", compared > 0, true);
    }

    private static void refused(String on, String call, int due, ToIntFunction<NeighbourBoard> made) {
        same(on, BOARDS.get(on), call, due, made, view -> true);
    }

    private static void refusedOnAll(String call, int due, ToIntFunction<NeighbourBoard> made) {
        for (String on : BOARDS.keySet()) refused(on, call, due, made);
    }

    private static final String NEW = "a new one";
    private static final String RICH = "a rich one";
    private static final String FULL = "a full one";
    private static final String SINGULAR = "a singular one";
    private static final String BARE = "one without a LAW USED";
    private static final String UNSEEN = "one with nothing SEEN";
    private static final String SINGLE = "one with one SEEN";

    private static int bit(boolean truth) {
        return truth ? 1 : 0;
    }

    /** -2 comes ahead of -3. */
    static void promise02Row() {
        refusedOnAll("row(-1, 0, 1)", -2, b -> b.row(-1, 0, 1));
        refusedOnAll("row(8, 0, 1)", -2, b -> b.row(8, 0, 1));
        refusedOnAll("row(0, -1, 1)", -2, b -> b.row(0, -1, 1));
        refusedOnAll("row(0, 4, 1)", -2, b -> b.row(0, 4, 1));
        refusedOnAll("row(0, 0, 61)", -2, b -> b.row(0, 0, 61));
        refusedOnAll("row(0, 0, -1)", -3, b -> b.row(0, 0, -1));
        refusedOnAll("row(7, 3, MIN)", -3, b -> b.row(7, 3, MIN));
        refusedOnAll("row(8, 0, -1): no SLOT, below 0", -2, b -> b.row(8, 0, -1));
        refusedOnAll("row(-1, 3, MIN): no SLOT, below 0", -2, b -> b.row(-1, 3, MIN));
        refusedOnAll("row(0, 4, -1): no WIDTH, below 0", -2, b -> b.row(0, 4, -1));
        refusedOnAll("row(0, -1, -1): no WIDTH, below 0", -2, b -> b.row(0, -1, -1));
    }

    static void promise03Tear() {
        refusedOnAll("tear(-1)", 0, b -> bit(b.tear(-1)));
        refusedOnAll("tear(8)", 0, b -> bit(b.tear(8)));
        refused(RICH, "tear(6)", 0, b -> bit(b.tear(6)));
        refused(NEW, "tear(0)", 0, b -> bit(b.tear(0)));
    }

    /** -2 comes ahead of -6, -5 ahead of -6. */
    static void promise04Write() {
        refusedOnAll("write(-1, 0, 1)", -2, b -> b.write(-1, 0, 1));
        refusedOnAll("write(8, 0, 1)", -2, b -> b.write(8, 0, 1));
        refusedOnAll("write(8, -1, 1): no SLOT, no number", -2, b -> b.write(8, -1, 1));
        refusedOnAll("write(-1, 60, 1): no SLOT, no number", -2, b -> b.write(-1, 60, 1));
        refused(NEW, "write(0, 0, 1)", -5, b -> b.write(0, 0, 1));
        refused(NEW, "write(0, -1, 1): nothing, no number", -5, b -> b.write(0, -1, 1));
        refused(RICH, "write(6, 60, 1): nothing, no number", -5, b -> b.write(6, 60, 1));
        refused(RICH, "write(0, 9, 1)", -6, b -> b.write(0, 9, 1));
        refused(RICH, "write(0, -1, 1)", -6, b -> b.write(0, -1, 1));
        refused(RICH, "write(3, 0, 1)", -6, b -> b.write(3, 0, 1));
        refused(FULL, "write(6, 60, 1)", -6, b -> b.write(6, 60, 1));
    }

    static void promise05Seen() {
        refusedOnAll("seen(-1)", -2, b -> b.seen(-1));
        refusedOnAll("seen(8)", -2, b -> b.seen(8));
        refused(NEW, "seen(0)", -5, b -> b.seen(0));
        refused(RICH, "seen(7)", -5, b -> b.seen(7));
        String[] laid = {RICH, FULL, SINGULAR, BARE, UNSEEN, SINGLE};
        for (String on : laid) {
            refused(on, "seen(3)", -6, b -> b.seen(3));
            refused(on, "seen(4)", -6, b -> b.seen(4));
            refused(on, "seen(5)", -4, b -> b.seen(5));
        }
    }

    /** What was read ahead of the number that is amiss is not kept. */
    static void promise05SeenHalfRead() {
        halfRead("the ROW ends", -6, 3, 9, 9, 9, 9, 8, 8, 8, 8);
        halfRead("x amiss", -4, 2, 9, 9, 9, 9, 21, 8, 8, 8);
        halfRead("DOUBT amiss", -4, 2, 9, 9, 9, 9, 8, 8, 8, 101);
        halfRead("a PLACE twice", -4, 2, 9, 9, 9, 9, 9, 9, 8, 8);
    }

    private static void halfRead(String call, int due, long... row) {
        Supplier<NeighbourBoard> make = () -> {
            NeighbourBoard b = rich();
            Dues.lay(b, 6, 1, row);
            return b;
        };
        same("a rich one", make, "seen(6), " + call, due, b -> b.seen(6), view -> true);
    }

    /** -4 comes ahead of -8 and -9, -8 ahead of -9. */
    static void promise06See() {
        refusedOnAll("see(21, 0, 0, 0)", -4, b -> b.see(21, 0, 0, 0));
        refusedOnAll("see(0, -21, 0, 0)", -4, b -> b.see(0, -21, 0, 0));
        refusedOnAll("see(0, 0, 1001, 0): amiss, the PLACE is there", -4, b -> b.see(0, 0, 1001, 0));
        refusedOnAll("see(0, 0, 0, 101): amiss, the PLACE is there", -4, b -> b.see(0, 0, 0, 101));
        refused(FULL, "see(9, 9, -1001, 0): amiss, there are 8", -4, b -> b.see(9, 9, -1001, 0));
        refused(FULL, "see(9, 9, 0, -1): amiss, there are 8", -4, b -> b.see(9, 9, 0, -1));
        refused(FULL, "see(9, 9, 9, 9)", -8, b -> b.see(9, 9, 9, 9));
        refused(FULL, "see(0, 0, 9, 9): there are 8, the PLACE is there", -8, b -> b.see(0, 0, 9, 9));
        refused(FULL, "see(3, -9, 9, 9): there are 8, the PLACE is there", -8, b -> b.see(3, -9, 9, 9));
        refused(RICH, "see(1, 3, 9, 9)", -9, b -> b.see(1, 3, 9, 9));
        refused(SINGULAR, "see(0, 0, 10, 0)", -9, b -> b.see(0, 0, 10, 0));
        refused(SINGLE, "see(4, 0, 9, 9)", -9, b -> b.see(4, 0, 9, 9));
    }

    static void promise07Drop() {
        refusedOnAll("drop(-1)", -2, b -> b.drop(-1));
        refusedOnAll("drop(8)", -2, b -> b.drop(8));
        refused(RICH, "drop(3)", -2, b -> b.drop(3));
        refused(SINGLE, "drop(1)", -2, b -> b.drop(1));
        refused(UNSEEN, "drop(0)", -2, b -> b.drop(0));
        refused(NEW, "drop(0)", -2, b -> b.drop(0));
    }

    /** -4 comes ahead of -8. */
    static void promise08Straight() {
        refusedOnAll("straight(0)", -4, b -> b.straight(0));
        refusedOnAll("straight(101)", -4, b -> b.straight(101));
        refused(FULL, "straight(1)", -8, b -> b.straight(1));
    }

    /** -4 comes ahead of -8. */
    static void promise09Capped() {
        refusedOnAll("capped(0, 5)", -4, b -> b.capped(0, 5));
        refusedOnAll("capped(101, 5)", -4, b -> b.capped(101, 5));
        refusedOnAll("capped(5, 0)", -4, b -> b.capped(5, 0));
        refusedOnAll("capped(5, 8001)", -4, b -> b.capped(5, 8001));
        refused(FULL, "capped(1, 1)", -8, b -> b.capped(1, 1));
    }

    /** -2 comes ahead of -8, -8 ahead of -5, -6 and -4. */
    static void promise10Table() {
        refusedOnAll("table(-1)", -2, b -> b.table(-1));
        refusedOnAll("table(8)", -2, b -> b.table(8));
        refused(FULL, "table(2)", -8, b -> b.table(2));
        refused(FULL, "table(3): there are 6, the ROW ends", -8, b -> b.table(3));
        refused(FULL, "table(4): there are 6, the ROW ends", -8, b -> b.table(4));
        refused(FULL, "table(5): there are 6, a number amiss", -8, b -> b.table(5));
        same(FULL, fullWithEmptySlot(), "table(7): there are 6, nothing", -8, b -> b.table(7), view -> true);
        refused(NEW, "table(0)", -5, b -> b.table(0));
        refused(RICH, "table(7)", -5, b -> b.table(7));
        String[] laid = {RICH, SINGULAR, BARE, UNSEEN, SINGLE};
        for (String on : laid) {
            refused(on, "table(3)", -6, b -> b.table(3));
            refused(on, "table(4)", -6, b -> b.table(4));
            refused(on, "table(5)", -4, b -> b.table(5));
        }
    }

    private static Supplier<NeighbourBoard> fullWithEmptySlot() {
        return () -> {
            NeighbourBoard b = full();
            b.tear(7);
            return b;
        };
    }

    /** -2 comes ahead of -8, -8 ahead of -4. */
    static void promise11Sum() {
        refusedOnAll("sum(-1, 0)", -2, b -> b.sum(-1, 0));
        refusedOnAll("sum(0, 6)", -2, b -> b.sum(0, 6));
        refusedOnAll("sum(6, 0)", -2, b -> b.sum(6, 0));
        refused(NEW, "sum(0, 0)", -2, b -> b.sum(0, 0));
        refused(RICH, "sum(0, 3)", -2, b -> b.sum(0, 3));
        refused(FULL, "sum(0, 0)", -8, b -> b.sum(0, 0));
        refused(FULL, "sum(5, 5): there are 6, more than 16000", -8, b -> b.sum(5, 5));
        Supplier<NeighbourBoard> steep = () -> {
            NeighbourBoard b = rich();
            b.straight(100);
            b.sum(3, 3);
            return b;
        };
        same("a steep one", steep, "sum(4, 0)", -4, b -> b.sum(4, 0), view -> true);
        same("a steep one", steep, "sum(4, 4)", -4, b -> b.sum(4, 4), view -> true);
        same("a steep one", steep, "sum(5, 4)", -2, b -> b.sum(5, 4), view -> true);
    }

    static void promise12Unlike() {
        refusedOnAll("unlike(-1, 1)", -1, b -> b.unlike(-1, 1));
        refusedOnAll("unlike(6, 1)", -1, b -> b.unlike(6, 1));
        refusedOnAll("unlike(0, 81)", -1, b -> b.unlike(0, 81));
        refusedOnAll("unlike(0, -1)", -1, b -> b.unlike(0, -1));
    }

    static void promise13Use() {
        refusedOnAll("use(-2)", 0, b -> bit(b.use(-2)));
        refusedOnAll("use(6)", 0, b -> bit(b.use(6)));
        refused(NEW, "use(0)", 0, b -> bit(b.use(0)));
        refused(RICH, "use(3)", 0, b -> bit(b.use(3)));
    }

    static void promise14Nearest() {
        refusedOnAll("nearest(0)", 0, b -> bit(b.nearest(0)));
        refusedOnAll("nearest(9)", 0, b -> bit(b.nearest(9)));
        refusedOnAll("nearest(MIN)", 0, b -> bit(b.nearest(MIN)));
    }

    /** -4 comes ahead of -5 and -7. */
    static void promise15Ask() {
        refusedOnAll("ask(21, 0)", -4, b -> b.ask(21, 0));
        refusedOnAll("ask(0, -21)", -4, b -> b.ask(0, -21));
        refusedOnAll("ask(MAX, MIN)", -4, b -> b.ask(MAX, MIN));
        refused(NEW, "ask(0, 0)", -5, b -> b.ask(0, 0));
        refused(BARE, "ask(0, 0)", -5, b -> b.ask(0, 0));
        refused(UNSEEN, "ask(0, 0)", -5, b -> b.ask(0, 0));
        refused(SINGULAR, "ask(0, 0)", -7, b -> b.ask(0, 0));
        refused(SINGULAR, "ask(9, 9)", -7, b -> b.ask(9, 9));
    }

    /** -2, -5, -6 and -4 come ahead of -10 and -7. */
    static void promise16Mean() {
        refusedOnAll("mean(-1)", -2, b -> b.mean(-1));
        refusedOnAll("mean(8)", -2, b -> b.mean(8));
        refused(NEW, "mean(0): nothing, no LAW", -5, b -> b.mean(0));
        refused(RICH, "mean(6)", -5, b -> b.mean(6));
        refused(SINGULAR, "mean(6): nothing, no WEIGHTS", -5, b -> b.mean(6));
        refused(BARE, "mean(6): nothing, no LAW USED", -5, b -> b.mean(6));
        refused(UNSEEN, "mean(6): nothing, nothing SEEN", -5, b -> b.mean(6));
        String[] laid = {RICH, FULL, SINGULAR, BARE, UNSEEN, SINGLE};
        for (String on : laid) {
            refused(on, "mean(3): the ROW ends", -6, b -> b.mean(3));
            refused(on, "mean(4): the ROW ends", -6, b -> b.mean(4));
            refused(on, "mean(5): a number amiss", -4, b -> b.mean(5));
        }
        refused(BARE, "mean(1)", -10, b -> b.mean(1));
        refused(UNSEEN, "mean(1)", -10, b -> b.mean(1));
        refused(SINGULAR, "mean(1)", -7, b -> b.mean(1));
    }

    static void promise17Answer() {
        int[] whats = {-1, 3, 9, 18, MIN, MAX, MIN + 10, MIN + 11};
        for (int what : whats) refusedOnAll("answer(" + what + ")", 0, b -> bit(b.answer(what)));
        refused(RICH, "answer(13)", 0, b -> bit(b.answer(13)));
        refused(SINGLE, "answer(11)", 0, b -> bit(b.answer(11)));
        int[] of = {0, 1, 2, 10};
        for (int what : of) {
            refused(NEW, "answer(" + what + ")", 0, b -> bit(b.answer(what)));
            refused(BARE, "answer(" + what + ")", 0, b -> bit(b.answer(what)));
            refused(UNSEEN, "answer(" + what + ")", 0, b -> bit(b.answer(what)));
        }
    }

    static void promise18LeftOut() {
        refusedOnAll("leftOut(-1)", 0, b -> bit(b.leftOut(-1)));
        refusedOnAll("leftOut(8)", 0, b -> bit(b.leftOut(8)));
        refused(RICH, "leftOut(3)", 0, b -> bit(b.leftOut(3)));
        refused(BARE, "leftOut(0)", 0, b -> bit(b.leftOut(0)));
        refused(UNSEEN, "leftOut(0)", 0, b -> bit(b.leftOut(0)));
        refused(SINGLE, "leftOut(0)", 0, b -> bit(b.leftOut(0)));
        refused(SINGULAR, "leftOut(1)", 0, b -> bit(b.leftOut(1)));
    }

    static void promise19Worst() {
        String[] none = {NEW, BARE, UNSEEN, SINGLE, SINGULAR};
        for (String on : none) refused(on, "worst()", -1, NeighbourBoard::worst);
        same(RICH, BOARDS.get(RICH), "worst()", rich().worst(), NeighbourBoard::worst, view -> true);
        same(FULL, BOARDS.get(FULL), "worst()", full().worst(), NeighbourBoard::worst, view -> true);
    }

    static void promise20Best() {
        String[] none = {NEW, UNSEEN, SINGLE};
        for (String on : none) refused(on, "best()", -1, NeighbourBoard::best);
        same(RICH, BOARDS.get(RICH), "best()", rich().best(), NeighbourBoard::best, view -> true);
        same(FULL, BOARDS.get(FULL), "best()", full().best(), NeighbourBoard::best, view -> true);
        same(SINGULAR, BOARDS.get(SINGULAR), "best()", 1, NeighbourBoard::best, view -> true);
        same(BARE, BOARDS.get(BARE), "best()", 0, NeighbourBoard::best, view -> true);
    }

    static void promise21Allowed() {
        refusedOnAll("allowed(-1)", -1, b -> b.allowed(-1));
        refusedOnAll("allowed(6)", -1, b -> b.allowed(6));
        refused(RICH, "allowed(3)", -1, b -> b.allowed(3));
        refused(FULL, "allowed(5)", full().allowed(5), b -> b.allowed(5));
        refused(SINGULAR, "allowed(0)", 1, b -> b.allowed(0));
    }

    static void promise22Pairs() {
        refusedOnAll("pairs(6, 5)", 0, b -> b.pairs(6, 5));
        refusedOnAll("pairs(81, MAX)", 0, b -> b.pairs(81, MAX));
        refused(FULL, "pairs(MIN, MAX)", 28, b -> b.pairs(MIN, MAX));
    }

    static void promise23Band() {
        refusedOnAll("band(6, 5)", 0, b -> bit(b.band(6, 5)));
        refusedOnAll("band(0, 0)", 0, b -> bit(b.band(0, 0)));
        refusedOnAll("band(81, MAX)", 0, b -> bit(b.band(81, MAX)));
        refused(SINGLE, "band(0, 80)", 0, b -> bit(b.band(0, 80)));
        refused(UNSEEN, "band(0, 80)", 0, b -> bit(b.band(0, 80)));
    }

    static void promise24to27Looking() {
        refusedOnAll("look(3)", -1, b -> b.look(3));
        refusedOnAll("look(-1)", -1, b -> b.look(-1));
        refusedOnAll("part(false, -1)", 0, b -> b.part(false, -1));
        refusedOnAll("part(true, 99)", 0, b -> b.part(true, 99));
        refusedOnAll("told(-1, 0)", -10000, b -> b.told(-1, 0));
        refusedOnAll("told(8, 0)", -10000, b -> b.told(8, 0));
        refusedOnAll("told(0, 4)", -10000, b -> b.told(0, 4));
        refusedOnAll("count(-1)", -1, b -> b.count(-1));
        refusedOnAll("count(6)", -1, b -> b.count(6));
    }

    private static void leaves(String call, int due, ToIntFunction<NeighbourBoard> made, String... views) {
        List<String> left = List.of(views);
        same(RICH, BOARDS.get(RICH), call, due, made, view -> left.stream().anyMatch(view::startsWith));
    }

    /** What a call on ROWS leaves: all but the ROWS. */
    static void termsWhatRowsLeave() {
        String[] left = {"RESULT", "ANSWER", "SEEN", "LAWS", "USED", "NEAREST", "next"};
        leaves("row(0, 2, 5)", 0, b -> b.row(0, 2, 5), left);
        leaves("tear(2)", 1, b -> bit(b.tear(2)), left);
        leaves("write(2, 1, 9)", 0, b -> b.write(2, 1, 9), left);
    }

    /** What a call that changes what is SEEN leaves: all but that and the ANSWER. */
    static void termsWhatSeeingLeaves() {
        String[] left = {"RESULT", "LAWS", "USED", "NEAREST", "next LAW", "SLOTS", "lengths", "WIDTHS"};
        leaves("seen(0)", 2, b -> b.seen(0), left);
        leaves("see(9, 9, 9, 9)", 3, b -> b.see(9, 9, 9, 9), left);
        leaves("drop(0)", 2, b -> b.drop(0), left);
    }

    /** What a LAW more leaves: the ANSWER too. */
    static void termsWhatALawMoreLeaves() {
        String[] left = {"RESULT", "ANSWER", "SEEN", "USED", "NEAREST", "next ANSWER", "next SEEN", "SLOTS as SEEN",
            "SLOTS as MEANS", "lengths", "WIDTHS"};
        leaves("straight(1)", 3, b -> b.straight(1), left);
        leaves("capped(1, 1)", 3, b -> b.capped(1, 1), left);
        leaves("table(2)", 3, b -> b.table(2), left);
        leaves("sum(0, 2)", 3, b -> b.sum(0, 2), left);
    }

    /** use() leaves all but the one that is USED and the ANSWER; nearest() leaves the ANSWER too. */
    static void termsWhatUseAndNearestLeave() {
        String[] left = {"RESULT", "SEEN", "LAWS", "NEAREST", "next LAW", "next SEEN", "SLOTS", "lengths", "WIDTHS"};
        leaves("use(1)", 1, b -> bit(b.use(1)), left);
        leaves("use(-1)", 1, b -> bit(b.use(-1)), left);
        String[] leftByNearest = {"RESULT", "ANSWER", "SEEN", "LAWS", "USED", "next LAW", "next SEEN", "SLOTS", "lengths",
            "WIDTHS"};
        leaves("nearest(3)", 1, b -> bit(b.nearest(3)), leftByNearest);
    }

    /** A new ANSWER leaves all else, the RESULT too. */
    static void termsWhatANewAnswerLeaves() {
        String[] left = {"RESULT", "SEEN", "LAWS", "USED", "NEAREST", "next", "SLOTS", "lengths", "WIDTHS"};
        leaves("ask(0, 1)", 0, b -> b.ask(0, 1), left);
        leaves("mean(1)", 0, b -> b.mean(1), left);
    }

    /** A new RESULT leaves all else, the ANSWER too. */
    static void termsWhatANewResultLeaves() {
        String[] left = {"ANSWER", "SEEN", "LAWS", "USED", "NEAREST", "next", "SLOTS", "lengths", "WIDTHS"};
        leaves("answer(1)", 1, b -> bit(b.answer(1)), left);
        leaves("leftOut(0)", 1, b -> bit(b.leftOut(0)), left);
        leaves("band(0, 80)", 1, b -> bit(b.band(0, 80)), left);
    }
}
