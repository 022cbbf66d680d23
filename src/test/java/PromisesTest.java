/** Each promise of the document by itself: ordinary inputs, the edges that it names, wrong inputs. */
public final class PromisesTest {
    private static final int MIN = Integer.MIN_VALUE;
    private static final int MAX = Integer.MAX_VALUE;
    private static final Dues dues = new Dues();

    public static void main(String[] args) {
        promise1New();
        promise2Row();
        promise3Tear();
        promise4Write();
        promise5Seen();
        promise5SeenOneByOne();
        promise6See();
        promise7Drop();
        promise8Straight();
        promise9Capped();
        promise10Table();
        promise11Sum();
        promise12Unlike();
        promise13Use();
        promise14Nearest();
        promise15Ask();
        promise15AskNearest();
        promise15AskRefused();
        promise16Mean();
        promise16MeanRefused();
        promise17Answer();
        promise18LeftOut();
        promise19Worst();
        promise20Best();
        promise21Allowed();
        promise22Pairs();
        promise23Band();
        promise24Look();
        promise25Part();
        promise26Told();
        promise27Count();
        refusedCallsChangeNothing();
        dues.end();
    }

    private static void due(String call, long got, long want) {
        dues.due(call, got, want);
    }

    private static void due(String call, boolean got, boolean want) {
        dues.due(call, got, want);
    }

    private static void result(String call, NeighbourBoard b, int top, int bottom) {
        dues.result(call, b, top, bottom);
    }

    private static void answer(String call, NeighbourBoard b, int what, int top, int bottom) {
        due(call + ": answer(" + what + ")", b.answer(what), true);
        result(call + ": answer(" + what + ")", b, top, bottom);
    }

    /** Numbers 10 at (0, 0) and 20 at (4, 0), the law straight(1) used. */
    private static NeighbourBoard two() {
        NeighbourBoard b = new NeighbourBoard();
        b.see(0, 0, 10, 0);
        b.see(4, 0, 20, 0);
        b.straight(1);
        b.use(0);
        return b;
    }

    /** Numbers 1, 2, 4 at (0, 0), (1, 0), (2, 0). */
    private static NeighbourBoard three() {
        NeighbourBoard b = new NeighbourBoard();
        b.see(0, 0, 1, 0);
        b.see(1, 0, 2, 0);
        b.see(2, 0, 4, 0);
        return b;
    }

    private static void promise1New() {
        NeighbourBoard b = new NeighbourBoard();
        due("NONE", NeighbourBoard.NONE, -1);
        int[] counts = {0, 0, -1, 8, 0, 0};
        for (int what = 0; what < 6; what++) due("1: count(" + what + ")", b.count(what), counts[what]);
        result("1: new", b, 0, 1);
        for (int what = 0; what < 20; what++) due("1: answer(" + what + ")", b.answer(what), false);
        for (int slot = 0; slot < 8; slot++) due("1: tear(" + slot + ")", b.tear(slot), false);
        due("1: told(0, 0)", b.told(0, 0), -10000);
        due("1: pairs(0, 80)", b.pairs(0, 80), 0);
        due("1: unlike(0, 1)", b.unlike(0, 1), -1);
        due("1: worst()", b.worst(), -1);
        due("1: best()", b.best(), -1);
        due("1: allowed(0)", b.allowed(0), -1);
    }

    private static void promise2Row() {
        NeighbourBoard b = new NeighbourBoard();
        due("2: row(0, 0, 60)", b.row(0, 0, 60), 0);
        due("2: write(0, 59, 1)", b.write(0, 59, 1), 0);
        due("2: row(7, 3, 0)", b.row(7, 3, 0), 0);
        due("2: count(4)", b.count(4), 2);
        due("2: write(7, 0, 1)", b.write(7, 0, 1), -6);
        due("2: row(-1, 0, 1)", b.row(-1, 0, 1), -2);
        due("2: row(8, 0, 1)", b.row(8, 0, 1), -2);
        due("2: row(MIN, 0, 1)", b.row(MIN, 0, 1), -2);
        due("2: row(MAX, 0, 1)", b.row(MAX, 0, 1), -2);
        due("2: row(1, -1, 1)", b.row(1, -1, 1), -2);
        due("2: row(1, 4, 1)", b.row(1, 4, 1), -2);
        due("2: row(1, 0, 61)", b.row(1, 0, 61), -2);
        due("2: row(1, 0, MAX)", b.row(1, 0, MAX), -2);
        due("2: row(1, 0, -1)", b.row(1, 0, -1), -3);
        due("2: row(1, 0, MIN)", b.row(1, 0, MIN), -3);
        due("2: row(8, 0, -1)", b.row(8, 0, -1), -2);
        due("2: row(1, 4, -1)", b.row(1, 4, -1), -2);
        due("2: count(4) after refusals", b.count(4), 2);
        Dues.lay(b, 2, 1, 1, 3, 4, 5, 6);
        b.row(2, 1, 61);
        b.row(2, 1, -1);
        due("2: seen(2) after refused rows", b.seen(2), 1);
        due("2: row(2, 0, 5) anew", b.row(2, 0, 5), 0);
        due("2: seen(2) of zeros", b.seen(2), 0);
        due("2: write(2, 0, 1)", b.write(2, 0, 1), 0);
        due("2: seen(2) of one", b.seen(2), 1);
        for (int what = 0; what < 4; what++) due("2: told(0, " + what + ")", b.told(0, what), 0);
        due("2: count(4) at the end", b.count(4), 3);
    }

    private static void promise3Tear() {
        NeighbourBoard b = new NeighbourBoard();
        b.row(0, 0, 0);
        b.row(7, 0, 9);
        due("3: tear(-1)", b.tear(-1), false);
        due("3: tear(8)", b.tear(8), false);
        due("3: tear(MIN)", b.tear(MIN), false);
        due("3: tear(MAX)", b.tear(MAX), false);
        due("3: tear(1)", b.tear(1), false);
        due("3: tear(0)", b.tear(0), true);
        due("3: tear(0) again", b.tear(0), false);
        due("3: count(4)", b.count(4), 1);
        due("3: tear(7)", b.tear(7), true);
        due("3: seen(7)", b.seen(7), -5);
        due("3: mean(7)", b.mean(7), -5);
        due("3: table(7)", b.table(7), -5);
        due("3: write(7, 0, 0)", b.write(7, 0, 0), -5);
        due("3: count(4) at the end", b.count(4), 0);
    }

    private static void promise4Write() {
        NeighbourBoard b = new NeighbourBoard();
        due("4: write(-1, 0, 0)", b.write(-1, 0, 0), -2);
        due("4: write(8, -1, 0)", b.write(8, -1, 0), -2);
        due("4: write(0, -1, 0)", b.write(0, -1, 0), -5);
        b.row(0, 0, 5);
        due("4: write(0, -1, 0)", b.write(0, -1, 0), -6);
        due("4: write(0, 5, 0)", b.write(0, 5, 0), -6);
        due("4: write(0, MIN, 0)", b.write(0, MIN, 0), -6);
        due("4: write(0, MAX, 0)", b.write(0, MAX, 0), -6);
        cut(b, 0, new long[] {257, 236, -236, 200, 256 + 100}, -20, 20, -56, 100);
        cut(b, 1, new long[] {65537, 65516, -65516, 65536 - 1000, -65536 + 7}, -20, 20, -1000, 7);
        long wide = 1L << 32;
        cut(b, 2, new long[] {wide + 1, wide - 20, 20 - wide, 3 * wide + 999, 7 - 9 * wide}, -20, 20, 999, 7);
        Dues.lay(b, 3, 3, wide + 1, 1, 1, 1, 1);
        due("4: seen(3) of 8 bytes", b.seen(3), -4);
        Dues.lay(b, 3, 3, 1, wide, 1, 1, 1);
        due("4: seen(3) of 8 bytes at x", b.seen(3), -4);
        Dues.lay(b, 3, 3, Long.MIN_VALUE, 1, 1, 1, 1);
        due("4: seen(3) of the lowest", b.seen(3), -4);
        Dues.lay(b, 3, 2, Long.MIN_VALUE + 1, 1, 1, 1, 1);
        due("4: seen(3) of the lowest cut", b.seen(3), 1);
    }


    private static void cut(NeighbourBoard b, int width, long[] row, int... told) {
        Dues.lay(b, width, width, row);
        due("4: seen of width " + width, b.seen(width), 1);
        for (int what = 0; what < 4; what++) due("4: told(0, " + what + ")", b.told(0, what), told[what]);
    }

    private static void promise5Seen() {
        NeighbourBoard b = two();
        b.ask(1, 1);
        due("5: seen(-1)", b.seen(-1), -2);
        due("5: seen(8)", b.seen(8), -2);
        due("5: seen(0)", b.seen(0), -5);
        due("5: count(5) after refusals", b.count(5), 1);
        Dues.lay(b, 0, 1, 3, -20, 20, -1000, 0, 20, -20, 1000, 100, 0, 0, 5, 1, 77, 78);
        due("5: seen(0) of three", b.seen(0), 3);
        due("5: count(5)", b.count(5), 0);
        int[] told = {-20, 20, -1000, 0, 20, -20, 1000, 100, 0, 0, 5, 1};
        for (int i = 0; i < 12; i++) due("5: told(" + i / 4 + ", " + i % 4 + ")", b.told(i / 4, i % 4), told[i]);
        due("5: count(2)", b.count(2), 0);
        due("5: count(1)", b.count(1), 1);
        b.ask(0, 0);
        due("5: seen(0) again", b.seen(0), 3);
        due("5: count(5) again", b.count(5), 0);
        b.write(0, 0, 0);
        due("5: seen(0) of none", b.seen(0), 0);
        due("5: count(0)", b.count(0), 0);
        b.row(1, 1, 33);
        b.write(1, 0, 8);
        for (int i = 0; i < 8; i++) b.write(1, 1 + 4 * i, i);
        due("5: seen(1) of eight", b.seen(1), 8);
        b.write(1, 0, 9);
        due("5: seen(1) of nine", b.seen(1), -4);
        b.write(1, 0, -1);
        due("5: seen(1) of -1", b.seen(1), -4);
        due("5: count(0) is still eight", b.count(0), 8);
    }

    private static void promise5SeenOneByOne() {
        NeighbourBoard b = new NeighbourBoard();
        b.row(0, 1, 0);
        due("5: seen of no numbers", b.seen(0), -6);
        seenRow(b, "ends ahead of x", -6, 1);
        seenRow(b, "ends ahead of y", -6, 1, 20);
        seenRow(b, "ends ahead of NUMBER", -6, 1, 20, -20);
        seenRow(b, "ends ahead of DOUBT", -6, 1, 20, -20, 1000);
        seenRow(b, "ends ahead of the second x", -6, 2, 20, -20, 1000, 100);
        seenRow(b, "x above, then the end", -4, 1, 21);
        seenRow(b, "x below, then the end", -4, 1, -21);
        seenRow(b, "y above, then the end", -4, 1, 0, 21);
        seenRow(b, "y below, then the end", -4, 1, 0, -21);
        seenRow(b, "NUMBER above, then the end", -4, 1, 0, 0, 1001);
        seenRow(b, "NUMBER below, then the end", -4, 1, 0, 0, -1001);
        seenRow(b, "DOUBT above", -4, 1, 0, 0, 0, 101);
        seenRow(b, "DOUBT below", -4, 1, 0, 0, 0, -1);
        seenRow(b, "a PLACE twice, at its y", -4, 2, 3, 4, 0, 0, 3, 4);
        seenRow(b, "a PLACE not yet twice at its x", -6, 2, 3, 4, 0, 0, 3);
        seenRow(b, "how many is wrong, then the end", -4, 9);
        due("5: count(0) after refusals", b.count(0), 0);
        seenRow(b, "alike x alone", 2, 2, 3, 4, 0, 0, 3, 5, 0, 0);
        seenRow(b, "x and y changed round", 2, 2, 3, 4, 0, 0, 4, 3, 0, 0);
    }

    private static void seenRow(NeighbourBoard b, String call, int want, long... numbers) {
        Dues.lay(b, 0, 1, numbers);
        due("5: " + call, b.seen(0), want);
    }

    private static void promise6See() {
        NeighbourBoard b = new NeighbourBoard();
        due("6: see(-20, 20, -1000, 0)", b.see(-20, 20, -1000, 0), 0);
        due("6: see(20, -20, 1000, 100)", b.see(20, -20, 1000, 100), 1);
        int[][] refused = {{21, 0, 0, 0}, {-21, 0, 0, 0}, {0, 21, 0, 0}, {0, -21, 0, 0}, {0, 0, 1001, 0},
            {0, 0, -1001, 0}, {0, 0, 0, 101}, {0, 0, 0, -1}, {MIN, 0, 0, 0}, {0, MAX, 0, 0}, {0, 0, MIN, 0},
            {0, 0, 0, MAX}, {20, -20, 1001, 0}};
        for (int[] r : refused) due("6: see refused", b.see(r[0], r[1], r[2], r[3]), -4);
        due("6: see(20, -20, 5, 5)", b.see(20, -20, 5, 5), -9);
        due("6: see(-20, -20, 5, 5)", b.see(-20, -20, 5, 5), 2);
        b.straight(1);
        b.use(0);
        due("6: ask(0, 0)", b.ask(0, 0), 0);
        due("6: see refused", b.see(20, -20, 5, 5), -9);
        due("6: count(5) after a refusal", b.count(5), 1);
        for (int i = 3; i < 8; i++) due("6: see(" + i + ", 0, 0, 0)", b.see(i, 0, 0, 0), i);
        due("6: count(5)", b.count(5), 0);
        due("6: a ninth", b.see(9, 0, 0, 0), -8);
        due("6: a ninth at a PLACE that is there", b.see(3, 0, 0, 0), -8);
        due("6: a ninth not as told", b.see(21, 0, 0, 0), -4);
        due("6: count(0)", b.count(0), 8);
    }

    private static void promise7Drop() {
        NeighbourBoard b = two();
        b.see(1, 2, 3, 4);
        due("7: drop(-1)", b.drop(-1), -2);
        due("7: drop(3)", b.drop(3), -2);
        due("7: drop(MIN)", b.drop(MIN), -2);
        due("7: drop(MAX)", b.drop(MAX), -2);
        b.ask(0, 1);
        due("7: drop(3) with an ANSWER", b.drop(3), -2);
        due("7: count(5) after a refusal", b.count(5), 1);
        due("7: drop(1)", b.drop(1), 2);
        due("7: count(5)", b.count(5), 0);
        int[] told = {0, 0, 10, 0, 1, 2, 3, 4};
        for (int i = 0; i < 8; i++) due("7: told(" + i / 4 + ", " + i % 4 + ")", b.told(i / 4, i % 4), told[i]);
        due("7: the PLACE is free", b.see(4, 0, 9, 9), 2);
        due("7: drop(2)", b.drop(2), 2);
        due("7: drop(0)", b.drop(0), 1);
        due("7: told(0, 3)", b.told(0, 3), 4);
        due("7: drop(0) of the last", b.drop(0), 0);
        due("7: drop(0) of none", b.drop(0), -2);
    }

    private static void promise8Straight() {
        NeighbourBoard b = new NeighbourBoard();
        due("8: straight(0)", b.straight(0), -4);
        due("8: straight(101)", b.straight(101), -4);
        due("8: straight(-1)", b.straight(-1), -4);
        due("8: straight(MIN)", b.straight(MIN), -4);
        due("8: straight(MAX)", b.straight(MAX), -4);
        due("8: straight(1)", b.straight(1), 0);
        due("8: straight(100)", b.straight(100), 1);
        for (int way = 0; way <= 80; way++) {
            due("8: unlike(0, " + way + ")", b.unlike(0, way), way);
            due("8: unlike(1, " + way + ")", b.unlike(1, way), 100 * way);
        }
        for (int l = 2; l < 6; l++) due("8: straight(7)", b.straight(7), l);
        due("8: a seventh", b.straight(7), -8);
        due("8: a seventh not as told", b.straight(0), -4);
        due("8: count(1)", b.count(1), 6);
    }

    private static void promise9Capped() {
        NeighbourBoard b = new NeighbourBoard();
        due("9: capped(0, 5)", b.capped(0, 5), -4);
        due("9: capped(101, 5)", b.capped(101, 5), -4);
        due("9: capped(5, 0)", b.capped(5, 0), -4);
        due("9: capped(5, 8001)", b.capped(5, 8001), -4);
        due("9: capped(5, -1)", b.capped(5, -1), -4);
        due("9: capped(MIN, MAX)", b.capped(MIN, MAX), -4);
        due("9: capped(3, 10)", b.capped(3, 10), 0);
        int[] told = {0, 3, 6, 9, 10, 10};
        for (int way = 0; way < 6; way++) due("9: unlike(0, " + way + ")", b.unlike(0, way), told[way]);
        due("9: unlike(0, 80)", b.unlike(0, 80), 10);
        due("9: capped(100, 1)", b.capped(100, 1), 1);
        due("9: unlike(1, 0)", b.unlike(1, 0), 0);
        due("9: unlike(1, 1)", b.unlike(1, 1), 1);
        due("9: capped(1, 8000)", b.capped(1, 8000), 2);
        due("9: unlike(2, 80)", b.unlike(2, 80), 80);
        due("9: capped(100, 8000)", b.capped(100, 8000), 3);
        due("9: unlike(3, 80)", b.unlike(3, 80), 8000);
        b.capped(1, 1);
        due("9: a sixth", b.capped(1, 1), 5);
        due("9: a seventh", b.capped(1, 1), -8);
        due("9: a seventh not as told", b.capped(1, 0), -4);
    }

    private static void promise10Table() {
        NeighbourBoard b = new NeighbourBoard();
        due("10: table(-1)", b.table(-1), -2);
        due("10: table(8)", b.table(8), -2);
        due("10: table(0)", b.table(0), -5);
        tableRow(b, "of no numbers", -6);
        tableRow(b, "of none", -4, 0, 5);
        tableRow(b, "of 41", -4, 41, 5);
        tableRow(b, "ends ahead of the first", -6, 1);
        tableRow(b, "ends ahead of the third", -6, 3, 1, 2);
        tableRow(b, "one above, then the end", -4, 2, 8001);
        tableRow(b, "one below, then the end", -4, 2, -1);
        tableRow(b, "the second above", -4, 2, 0, 8001);
        due("10: count(1) after refusals", b.count(1), 0);
        tableRow(b, "of three", 0, 3, 8000, 0, 7, 9, 9);
        int[] told = {0, 8000, 0, 7, 7, 7};
        for (int way = 0; way < 6; way++) due("10: unlike(0, " + way + ")", b.unlike(0, way), told[way]);
        due("10: unlike(0, 80)", b.unlike(0, 80), 7);
        b.write(0, 1, 1);
        due("10: the LAW does not change with the ROW", b.unlike(0, 1), 8000);
        b.tear(0);
        due("10: nor when it is torn", b.unlike(0, 1), 8000);
        long[] forty = new long[41];
        forty[0] = 40;
        for (int way = 1; way <= 40; way++) forty[way] = 100 + way;
        tableRow(b, "of forty", 1, forty);
        for (int way = 1; way <= 80; way++) due("10: unlike(1, " + way + ")", b.unlike(1, way), 100 + Math.min(way, 40));
        tableRow(b, "of one", 2, 1, 0);
        due("10: unlike(2, 80)", b.unlike(2, 80), 0);
        for (int l = 3; l < 6; l++) tableRow(b, "one more", l, 1, l);
        tableRow(b, "a seventh", -8, 1, 1);
        tableRow(b, "a seventh not as told", -8, 41);
        due("10: a seventh of no ROW", b.table(5), -8);
        due("10: a seventh of no SLOT", b.table(8), -2);
    }

    private static void tableRow(NeighbourBoard b, String call, int want, long... numbers) {
        Dues.lay(b, 0, 1, numbers);
        due("10: table " + call, b.table(0), want);
    }

    private static void promise11Sum() {
        NeighbourBoard b = new NeighbourBoard();
        due("11: sum(0, 0) of none", b.sum(0, 0), -2);
        b.straight(2);
        due("11: sum(0, 1)", b.sum(0, 1), -2);
        due("11: sum(1, 0)", b.sum(1, 0), -2);
        due("11: sum(-1, 0)", b.sum(-1, 0), -2);
        due("11: sum(0, MAX)", b.sum(0, MAX), -2);
        due("11: sum(0, 0)", b.sum(0, 0), 1);
        b.capped(5, 12);
        due("11: sum(2, 0)", b.sum(2, 0), 3);
        for (int way = 0; way <= 80; way++) {
            due("11: unlike(1, " + way + ")", b.unlike(1, way), 4 * way);
            due("11: unlike(3, " + way + ")", b.unlike(3, way), 2 * way + Math.min(5 * way, 12));
        }
        due("11: sum(3, 1)", b.sum(3, 1), 4);
        due("11: unlike(4, 1)", b.unlike(4, 1), 11);
        b.straight(1);
        due("11: a seventh", b.sum(0, 0), -8);
        due("11: a seventh of none such", b.sum(0, 6), -2);
        promise11SumTooMuch();
    }

    private static void promise11SumTooMuch() {
        NeighbourBoard b = new NeighbourBoard();
        b.straight(100);
        due("11: sum(0, 0) of 16000", b.sum(0, 0), 1);
        due("11: unlike(1, 80)", b.unlike(1, 80), 16000);
        b.capped(1, 1);
        due("11: sum(1, 2) of 16001", b.sum(1, 2), -4);
        due("11: count(1)", b.count(1), 3);
        due("11: unlike(3, 1)", b.unlike(3, 1), -1);
        Dues.lay(b, 0, 1, 2, 8000, 0);
        due("11: a TABLE that is high early", b.table(0), 3);
        due("11: sum(3, 3)", b.sum(3, 3), 4);
        due("11: sum(4, 2) of 16001 at WAY 1 alone", b.sum(4, 2), -4);
        due("11: sum(1, 3) of at most 16000", b.sum(1, 3), 5);
        due("11: unlike(5, 1)", b.unlike(5, 1), 8200);
        due("11: sum(1, 4) when there are 6", b.sum(1, 2), -8);
    }

    private static void promise12Unlike() {
        NeighbourBoard b = new NeighbourBoard();
        b.straight(3);
        b.capped(3, 7);
        due("12: unlike(0, 80)", b.unlike(0, 80), 240);
        due("12: unlike(1, 2)", b.unlike(1, 2), 6);
        due("12: unlike(1, 3)", b.unlike(1, 3), 7);
        due("12: unlike(1, 0)", b.unlike(1, 0), 0);
        due("12: unlike(2, 1)", b.unlike(2, 1), -1);
        due("12: unlike(-1, 1)", b.unlike(-1, 1), -1);
        due("12: unlike(MIN, 1)", b.unlike(MIN, 1), -1);
        due("12: unlike(MAX, 1)", b.unlike(MAX, 1), -1);
        due("12: unlike(0, 81)", b.unlike(0, 81), -1);
        due("12: unlike(0, -1)", b.unlike(0, -1), -1);
        due("12: unlike(0, MIN)", b.unlike(0, MIN), -1);
        due("12: unlike(0, MAX)", b.unlike(0, MAX), -1);
    }

    private static void promise13Use() {
        NeighbourBoard b = two();
        b.capped(1, 2);
        b.ask(1, 0);
        due("13: use(2)", b.use(2), false);
        due("13: use(-2)", b.use(-2), false);
        due("13: use(MIN)", b.use(MIN), false);
        due("13: use(MAX)", b.use(MAX), false);
        due("13: count(2)", b.count(2), 0);
        due("13: count(5) after refusals", b.count(5), 1);
        due("13: use(1)", b.use(1), true);
        due("13: count(2) then", b.count(2), 1);
        due("13: count(5) then", b.count(5), 0);
        b.ask(1, 0);
        due("13: use(1) again", b.use(1), true);
        due("13: count(5) again", b.count(5), 0);
        b.ask(1, 0);
        due("13: use(NONE)", b.use(-1), true);
        due("13: count(5) of none", b.count(5), 0);
        due("13: count(2) of none", b.count(2), -1);
        due("13: ask", b.ask(1, 0), -5);
        due("13: use(NONE) of a new one", new NeighbourBoard().use(-1), true);
        due("13: use(0) of a new one", new NeighbourBoard().use(0), false);
    }

    private static void promise14Nearest() {
        NeighbourBoard b = two();
        b.ask(1, 0);
        due("14: nearest(0)", b.nearest(0), false);
        due("14: nearest(9)", b.nearest(9), false);
        due("14: nearest(-1)", b.nearest(-1), false);
        due("14: nearest(MIN)", b.nearest(MIN), false);
        due("14: nearest(MAX)", b.nearest(MAX), false);
        due("14: count(3)", b.count(3), 8);
        due("14: nearest(1)", b.nearest(1), true);
        due("14: count(3) then", b.count(3), 1);
        due("14: count(5)", b.count(5), 1);
        answer("14: the ANSWER stays", b, 0, 25, 2);
        b.ask(1, 0);
        answer("14: by one", b, 0, 10, 1);
        due("14: nearest(8)", b.nearest(8), true);
        b.ask(1, 0);
        answer("14: by both", b, 0, 25, 2);
    }

    private static void promise15Ask() {
        NeighbourBoard b = two();
        due("15: ask(1, 0)", b.ask(1, 0), 0);
        answer("15: straight", b, 0, 25, 2);
        answer("15: straight", b, 1, 3, 2);
        answer("15: straight", b, 2, 0, 1);
        answer("15: straight", b, 10, 3, 4);
        answer("15: straight", b, 11, 1, 4);
        due("15: ask(-20, 20)", b.ask(-20, 20), 0);
        answer("15: far off", b, 10, 1, 1);
        answer("15: far off", b, 2, 40, 1);
        answer("15: far off", b, 1, 80, 1);
        b.see(0, 4, -6, 6);
        due("15: ask(0, 0) of three", b.ask(0, 0), 0);
        answer("15: at a PLACE without DOUBT", b, 0, 10, 1);
        answer("15: at a PLACE without DOUBT", b, 1, 0, 1);
        due("15: ask(0, 4) of three", b.ask(0, 4), 0);
        // 4 v + 4 w + m = 4; 4 u + 8 w + m = 8; 4 u + 8 v - 6 w + m = 0; u + v + w = 1.
        answer("15: at a PLACE with DOUBT", b, 12, 4, 7);
        answer("15: at a PLACE with DOUBT", b, 10, 3, 7);
        answer("15: at a PLACE with DOUBT", b, 11, 0, 1);
        answer("15: at a PLACE with DOUBT", b, 2, 12, 7);
        answer("15: at a PLACE with DOUBT", b, 0, 6, 7);
        answer("15: at a PLACE with DOUBT", b, 1, 24, 7);
        NeighbourBoard one = new NeighbourBoard();
        one.see(2, 3, -7, 5);
        one.straight(2);
        one.use(0);
        due("15: ask(0, 0) by one", one.ask(0, 0), 0);
        answer("15: by one", one, 0, -7, 1);
        answer("15: by one", one, 1, 25, 1);
        answer("15: by one", one, 2, 15, 1);
        answer("15: by one", one, 10, 1, 1);
    }

    private static void promise15AskNearest() {
        NeighbourBoard b = new NeighbourBoard();
        b.straight(1);
        b.use(0);
        b.see(5, 0, 50, 0);
        b.see(0, 3, 30, 0);
        b.see(-3, 0, -30, 0);
        b.see(2, 1, 21, 0);
        b.nearest(1);
        b.ask(0, 0);
        answer("15: alike ones, the lower number", b, 11, 1, 1);
        answer("15: alike ones, not USED", b, 12, 0, 1);
        answer("15: alike ones, not USED", b, 10, 0, 1);
        answer("15: alike ones", b, 0, 30, 1);
        b.ask(1, 0);
        answer("15: the nearest one", b, 0, 21, 1);
        b.nearest(3);
        b.ask(0, 0);
        answer("15: three of four", b, 10, 0, 1);
        // Of (0, 3), (-3, 0), (2, 1): 6 w + 4 u + m = 3; 6 v + 6 u + m = 3; 4 v + 6 w + m = 3; v + w + u = 1.
        answer("15: three of four", b, 11, 3, 10);
        answer("15: three of four", b, 12, 2, 5);
        answer("15: three of four", b, 13, 3, 10);
        answer("15: three of four", b, 0, 33, 10);
        b.nearest(4);
        b.ask(5, 0);
        answer("15: all of them", b, 10, 1, 1);
    }

    private static void promise15AskRefused() {
        NeighbourBoard b = new NeighbourBoard();
        due("15: ask(21, 0)", b.ask(21, 0), -4);
        due("15: ask(0, -21)", b.ask(0, -21), -4);
        due("15: ask(MIN, MAX)", b.ask(MIN, MAX), -4);
        due("15: ask(0, 0) of nothing", b.ask(0, 0), -5);
        b.straight(1);
        b.use(0);
        due("15: ask(0, 0) of nothing SEEN", b.ask(0, 0), -5);
        b.see(0, 0, 1, 0);
        b.use(-1);
        due("15: ask(0, 0) without a LAW", b.ask(0, 0), -5);
        b.see(3, 0, 2, 0);
        Dues.lay(b, 0, 1, 1, 0);
        b.table(0);
        b.use(1);
        due("15: more than one row of WEIGHTS", b.ask(1, 0), -7);
        due("15: count(5)", b.count(5), 0);
        Dues.lay(b, 0, 1, 4, 0, 5, 0, 7);
        b.table(0);
        b.use(2);
        due("15: no WEIGHTS", b.ask(1, 0), -7);
        b.drop(1);
        due("15: one SEEN", b.ask(1, 0), 0);
        b.see(3, 0, 2, 1);
        due("15: with a DOUBT", b.ask(3, 0), 0);
        answer("15: with a DOUBT", b, 10, 1, 1);
    }

    private static void promise16Mean() {
        NeighbourBoard b = two();
        Dues.lay(b, 1, 1, 2, 1, 0, 3, 0);
        due("16: mean(1)", b.mean(1), 0);
        answer("16: of two", b, 0, 15, 1);
        answer("16: of two", b, 1, 1, 1);
        answer("16: of two", b, 2, 0, 1);
        Dues.lay(b, 1, 0, 3, 1, 0, 1, 0, 3, 0, 99);
        due("16: one comes again", b.mean(1), 0);
        // means 5/3 and 7/3; 4 v + m = 5/3, 4 w + m = 7/3; 8/9 for the pairs, each with itself too.
        answer("16: one comes again", b, 10, 7, 12);
        answer("16: one comes again", b, 11, 5, 12);
        answer("16: one comes again", b, 0, 85, 6);
        answer("16: one comes again", b, 2, 0, 1);
        answer("16: one comes again", b, 1, 19, 18);
        Dues.lay(b, 1, 3, 1, 1, 0);
        due("16: of one", b.mean(1), 0);
        answer("16: of one", b, 0, 25, 2);
        Dues.lay(b, 1, 2, 6, 1, 0, 1, 0, 1, 0, 1, 0, 1, 0, 1, 0);
        due("16: of six alike", b.mean(1), 0);
        answer("16: of six alike", b, 0, 25, 2);
        answer("16: of six alike", b, 1, 3, 2);
        answer("16: of six alike", b, 10, 3, 4);
        b.nearest(1);
        Dues.lay(b, 1, 1, 3, 0, 0, 3, 0, 4, 0);
        due("16: by one", b.mean(1), 0);
        answer("16: the least sum of WAYS", b, 11, 1, 1);
        Dues.lay(b, 1, 1, 2, 0, 0, 4, 0);
        due("16: by one of alike ones", b.mean(1), 0);
        answer("16: the lower number of alike ones", b, 10, 1, 1);
        answer("16: the lower number of alike ones", b, 1, 2, 1);
    }

    private static void promise16MeanRefused() {
        NeighbourBoard b = new NeighbourBoard();
        due("16: mean(-1)", b.mean(-1), -2);
        due("16: mean(8)", b.mean(8), -2);
        due("16: mean(0)", b.mean(0), -5);
        meanRow(b, "no numbers", -6);
        meanRow(b, "of none", -4, 0);
        meanRow(b, "of seven", -4, 7);
        meanRow(b, "of -1", -4, -1);
        meanRow(b, "ends ahead of x", -6, 1);
        meanRow(b, "ends ahead of y", -6, 1, 5);
        meanRow(b, "ends ahead of the second", -6, 2, 5, 5);
        meanRow(b, "x above, then the end", -4, 1, 21);
        meanRow(b, "y below, then the end", -4, 2, 20, -21);
        meanRow(b, "nothing SEEN, no LAW", -10, 1, 20, -20);
        b.straight(1);
        b.use(0);
        meanRow(b, "nothing SEEN", -10, 1, 0, 0);
        b.see(0, 0, 1, 0);
        b.see(1, 0, 1, 0);
        b.use(-1);
        meanRow(b, "no LAW", -10, 1, 0, 0);
        meanRow(b, "no LAW, and not as told", -4, 1, 0, 21);
        Dues.lay(b, 1, 1, 1, 0);
        b.table(1);
        b.use(1);
        meanRow(b, "not just one row of WEIGHTS", -7, 1, 0, 0);
        b.use(0);
        b.ask(0, 0);
        b.answer(0);
        meanRow(b, "refused with an ANSWER", -6, 2, 1, 1, 1);
        answer("16: the ANSWER stays", b, 10, 1, 1);
    }

    private static void meanRow(NeighbourBoard b, String call, int want, long... numbers) {
        Dues.lay(b, 0, 1, numbers);
        due("16: " + call, b.mean(0), want);
    }

    private static void promise17Answer() {
        NeighbourBoard b = two();
        due("17: answer(0) without", b.answer(0), false);
        result("17: without", b, 0, 1);
        b.ask(1, 0);
        answer("17: guess", b, 0, 25, 2);
        int[] others = {-1, 3, 4, 9, 12, 13, 18, 100, MIN, MAX, MIN + 10, MIN + 11};
        for (int what : others) due("17: answer(" + what + ")", b.answer(what), false);
        result("17: after refusals", b, 25, 2);
        answer("17: spread", b, 1, 3, 2);
        answer("17: weight 1", b, 11, 1, 4);
        answer("17: weight 0", b, 10, 3, 4);
        answer("17: price", b, 2, 0, 1);
        b.nearest(1);
        b.ask(3, 0);
        answer("17: one that was not USED", b, 10, 0, 1);
        answer("17: the one that was", b, 11, 1, 1);
        b.straight(5);
        b.leftOut(0);
        b.band(0, 80);
        answer("17: it stays", b, 0, 20, 1);
        due("17: ask refused", b.ask(0, 21), -4);
        answer("17: it stays then", b, 0, 20, 1);
    }

    private static void promise18LeftOut() {
        NeighbourBoard b = three();
        due("18: no LAW", b.leftOut(0), false);
        b.straight(1);
        b.use(0);
        b.nearest(1);
        due("18: leftOut(1)", b.leftOut(1), true);
        result("18: the middle, by both", b, -1, 2);
        due("18: leftOut(-1)", b.leftOut(-1), false);
        due("18: leftOut(3)", b.leftOut(3), false);
        due("18: leftOut(MIN)", b.leftOut(MIN), false);
        due("18: leftOut(MAX)", b.leftOut(MAX), false);
        result("18: after refusals", b, -1, 2);
        due("18: leftOut(0)", b.leftOut(0), true);
        result("18: the first", b, -1, 1);
        due("18: leftOut(2)", b.leftOut(2), true);
        result("18: the last", b, 2, 1);
        b.ask(0, 0);
        due("18: leftOut(1) with an ANSWER", b.leftOut(1), true);
        answer("18: the ANSWER stays", b, 0, 1, 1);
        Dues.lay(b, 0, 1, 2, 0, 1);
        b.table(0);
        b.use(1);
        due("18: not just one row of WEIGHTS", b.leftOut(2), false);
        due("18: just one row of WEIGHTS", b.leftOut(1), true);
        result("18: by a TABLE", b, -1, 2);
        b.use(0);
        b.drop(0);
        b.drop(0);
        due("18: the only one", b.leftOut(0), false);
        b.drop(0);
        due("18: nothing SEEN", b.leftOut(0), false);
        NeighbourBoard d = new NeighbourBoard();
        d.straight(1);
        d.use(0);
        d.see(0, 0, 10, 0);
        d.see(4, 0, 20, 2);
        d.see(1, 0, 0, 99);
        due("18: with DOUBTS of the others", d.leftOut(2), true);
        result("18: with DOUBTS of the others", d, -12, 1);
    }

    private static void promise19Worst() {
        NeighbourBoard b = three();
        due("19: no LAW", b.worst(), -1);
        b.straight(1);
        b.use(0);
        b.leftOut(1);
        due("19: worst()", b.worst(), 2);
        result("19: the RESULT stays", b, -1, 2);
        b.nearest(1);
        due("19: worst() whatever NEAREST", b.worst(), 2);
        NeighbourBoard c = two();
        due("19: alike ones", c.worst(), 0);
        c.drop(0);
        due("19: the only one", c.worst(), -1);
        c.drop(0);
        due("19: nothing SEEN", c.worst(), -1);
        Dues.lay(b, 0, 1, 2, 0, 1);
        b.table(0);
        b.use(1);
        due("19: one can't be LEFT OUT", b.worst(), -1);
        NeighbourBoard d = new NeighbourBoard();
        d.straight(1);
        d.use(0);
        d.see(0, 0, 0, 0);
        d.see(1, 0, 10, 0);
        d.see(2, 0, 0, 0);
        due("19: the middle below", d.worst(), 0);
        d.see(3, 0, 9, 0);
        // -10, 10, -19/2, 9
        due("19: sizes, the lowest number", d.worst(), 0);
    }

    private static void promise20Best() {
        NeighbourBoard b = three();
        due("20: no LAWS", b.best(), -1);
        Dues.lay(b, 0, 1, 2, 0, 1);
        b.table(0);
        due("20: none by which all can be LEFT OUT", b.best(), -1);
        b.capped(1, 1);
        // by a cap of 1 the others count alike: 1 - 3, 2 - 5/2, 4 - 3/2
        due("20: best()", b.best(), 1);
        b.straight(1);
        due("20: a better one", b.best(), 2);
        b.straight(7);
        due("20: alike ones", b.best(), 2);
        due("20: count(2)", b.count(2), -1);
        b.use(1);
        b.ask(0, 0);
        b.answer(0);
        due("20: best() while another is USED", b.best(), 2);
        due("20: count(2) stays", b.count(2), 1);
        due("20: count(5) stays", b.count(5), 1);
        result("20: the RESULT stays", b, 1, 1);
        due("20: the LAW is still USED", b.worst(), 2);
        b.drop(2);
        due("20: of two all are alike", b.best(), 0);
        b.drop(1);
        due("20: of one", b.best(), -1);
        b.drop(0);
        due("20: of nothing", b.best(), -1);
    }

    private static void promise21Allowed() {
        NeighbourBoard b = three();
        due("21: allowed(0) of none", b.allowed(0), -1);
        Dues.lay(b, 0, 1, 2, 1, 8);
        b.table(0);
        due("21: not", b.allowed(0), 0);
        b.write(0, 2, 4);
        b.table(0);
        due("21: it is", b.allowed(1), 1);
        b.straight(1);
        due("21: STRICTLY", b.allowed(2), 2);
        b.write(0, 1, 0);
        b.write(0, 2, 0);
        b.table(0);
        due("21: all alike", b.allowed(3), 1);
        b.write(0, 2, 1);
        b.table(0);
        due("21: 0, then 1", b.allowed(4), 0);
        due("21: allowed(-1)", b.allowed(-1), -1);
        due("21: allowed(5)", b.allowed(5), -1);
        due("21: allowed(MIN)", b.allowed(MIN), -1);
        due("21: allowed(MAX)", b.allowed(MAX), -1);
        b.drop(2);
        due("21: of two", b.allowed(0), 2);
        due("21: of two, all alike", b.allowed(3), 1);
        b.drop(0);
        b.drop(0);
        b.see(0, 0, 1, 100);
        b.see(3, 3, 0, 100);
        due("21: DOUBTS do not matter", b.allowed(3), 1);
        b.drop(0);
        due("21: of one", b.allowed(3), 2);
        b.drop(0);
        due("21: of none SEEN", b.allowed(3), 2);
        due("21: count(2)", b.count(2), -1);
        NeighbourBoard ring = new NeighbourBoard();
        ring.straight(1);
        ring.see(0, 0, 0, 0);
        ring.see(1, 0, 0, 0);
        ring.see(0, 1, 0, 0);
        due("21: a corner", ring.allowed(0), 2);
        ring.see(1, 1, 0, 0);
        due("21: a square of four", ring.allowed(0), 1);
    }

    private static void promise22Pairs() {
        NeighbourBoard b = three();
        due("22: pairs(1, 1)", b.pairs(1, 1), 2);
        due("22: pairs(2, 2)", b.pairs(2, 2), 1);
        due("22: pairs(1, 2)", b.pairs(1, 2), 3);
        due("22: pairs(0, 0)", b.pairs(0, 0), 0);
        due("22: pairs(3, 80)", b.pairs(3, 80), 0);
        due("22: pairs(2, 1)", b.pairs(2, 1), 0);
        due("22: pairs(MIN, MAX)", b.pairs(MIN, MAX), 3);
        due("22: pairs(MAX, MIN)", b.pairs(MAX, MIN), 0);
        NeighbourBoard far = new NeighbourBoard();
        far.see(-20, -20, 0, 0);
        due("22: of one", far.pairs(0, 80), 0);
        far.see(20, 20, 0, 0);
        due("22: the farthest", far.pairs(80, 80), 1);
        due("22: short of it", far.pairs(0, 79), 0);
        for (int i = 0; i < 6; i++) far.see(i, 0, 0, 0);
        due("22: of eight", far.pairs(0, 80), 28);
    }

    private static void promise23Band() {
        NeighbourBoard b = three();
        due("23: band(1, 1)", b.band(1, 1), true);
        result("23: 1/2 and 4/2", b, 5, 4);
        due("23: band(2, 2)", b.band(2, 2), true);
        result("23: 9/2", b, 9, 2);
        due("23: band(3, 80)", b.band(3, 80), false);
        due("23: band(2, 1)", b.band(2, 1), false);
        due("23: band(0, 0)", b.band(0, 0), false);
        result("23: the RESULT stays", b, 9, 2);
        due("23: band(MIN, MAX)", b.band(MIN, MAX), true);
        result("23: all of them", b, 7, 3);
        NeighbourBoard far = new NeighbourBoard();
        far.see(0, 0, 1000, 0);
        far.see(0, 1, -1000, 0);
        far.see(1, 0, 1000, 0);
        due("23: band(1, 1) of the greatest", far.band(1, 1), true);
        result("23: the greatest and 0", far, 1000000, 1);
        due("23: band(2, 2) of the greatest", far.band(2, 2), true);
        result("23: the greatest", far, 2000000, 1);
        NeighbourBoard same = new NeighbourBoard();
        same.see(0, 0, 5, 0);
        same.see(0, 1, 5, 0);
        same.see(0, 9, 7, 0);
        same.band(8, 8);
        due("23: band of alike ones", same.band(1, 1), true);
        result("23: of alike ones", same, 0, 1);
    }

    /** A LAW by which the RESULTS have several parts; their digits were reckoned by BoardModel. */
    private static NeighbourBoard large() {
        NeighbourBoard b = new NeighbourBoard();
        Dues.lay(b, 0, 1, 12, 7919, 6007, 7001, 7207, 5003, 7577, 4001, 7993, 6991, 7853, 3001, 7757);
        b.table(0);
        b.use(0);
        int[] sights = {0, 0, 997, 3, 1, 0, -991, 5, 3, 1, 983, 7, -2, 2, -977, 11, 4, -3, 971, 13, -5, 1, -967, 17,
            2, 6, 953, 19, -1, -4, 947, 23};
        for (int i = 0; i < 32; i += 4) b.see(sights[i], sights[i + 1], sights[i + 2], sights[i + 3]);
        return b;
    }

    private static void promise24Look() {
        NeighbourBoard b = three();
        due("24: look(0) of 0", b.look(0), 0);
        due("24: look(1) of 0", b.look(1), 1);
        due("24: look(2) of 0", b.look(2), 1);
        due("24: look(3)", b.look(3), -1);
        due("24: look(-1)", b.look(-1), -1);
        due("24: look(MIN)", b.look(MIN), -1);
        due("24: look(MAX)", b.look(MAX), -1);
        b.straight(1);
        b.use(0);
        b.leftOut(0);
        due("24: look(0) below 0", b.look(0), -1);
        due("24: look(1) below 0", b.look(1), 1);
        b.leftOut(2);
        due("24: look(0) above 0", b.look(0), 1);
        NeighbourBoard l = large();
        due("24: ask(1, 1)", l.ask(1, 1), 0);
        BoardModel m = largeModel();
        for (int what = 0; what < 18; what++) {
            due("24: answer(" + what + ")", l.answer(what), m.answer(what));
            for (int i = -1; i < 4; i++) due("24: look(" + i + ") of " + what, l.look(i), m.look(i));
        }
        l.answer(1);
        due("24: more parts than one", l.look(1) > 1 && l.look(2) > 1, true);
    }

    private static BoardModel largeModel() {
        BoardModel m = new BoardModel();
        long[] told = {12, 7919, 6007, 7001, 7207, 5003, 7577, 4001, 7993, 6991, 7853, 3001, 7757};
        m.row(0, 1, 13);
        for (int i = 0; i < 13; i++) m.write(0, i, told[i]);
        m.table(0);
        m.use(0);
        NeighbourBoard l = large();
        for (int i = 0; i < 8; i++) m.see(l.told(i, 0), l.told(i, 1), l.told(i, 2), l.told(i, 3));
        m.ask(1, 1);
        return m;
    }

    private static void promise25Part() {
        NeighbourBoard b = three();
        due("25: part(false, 0) of 0", b.part(false, 0), 0);
        due("25: part(true, 0) of 0", b.part(true, 0), 1);
        b.straight(1);
        b.use(0);
        b.leftOut(1);
        due("25: without sign", b.part(false, 0), 1);
        due("25: part(true, 0)", b.part(true, 0), 2);
        int[] none = {-1, 1, 2, 11, 12, 13, 1000, MIN, MAX};
        for (int i : none) {
            due("25: part(false, " + i + ")", b.part(false, i), 0);
            due("25: part(true, " + i + ")", b.part(true, i), 0);
        }
        NeighbourBoard l = large();
        l.ask(1, 1);
        BoardModel m = largeModel();
        for (int what = 0; what < 18; what++) {
            l.answer(what);
            m.answer(what);
            for (int i = -1; i < 8; i++) {
                due("25: part(false, " + i + ") of " + what, l.part(false, i), m.part(false, i));
                due("25: part(true, " + i + ") of " + what, l.part(true, i), m.part(true, i));
            }
        }
        l.answer(0);
        l.band(0, 80);
        due("25: no parts are left over", l.part(false, 1) + l.part(true, 1) + l.part(true, 2), 0);
    }

    private static void promise26Told() {
        NeighbourBoard b = new NeighbourBoard();
        b.see(-3, 4, -500, 60);
        int[] told = {-3, 4, -500, 60};
        for (int what = 0; what < 4; what++) due("26: told(0, " + what + ")", b.told(0, what), told[what]);
        int[] none = {-1, 4, MIN, MAX};
        for (int what : none) due("26: told(0, " + what + ")", b.told(0, what), -10000);
        int[] noSuch = {-1, 1, 8, MIN, MAX};
        for (int i : noSuch) due("26: told(" + i + ", 0)", b.told(i, 0), -10000);
        b.drop(0);
        due("26: told(0, 0) when it is gone", b.told(0, 0), -10000);
    }

    private static void promise27Count() {
        NeighbourBoard b = two();
        b.capped(1, 2);
        b.row(3, 0, 0);
        b.row(3, 0, 1);
        b.row(4, 0, 1);
        b.nearest(5);
        int[] counts = {2, 2, 0, 5, 2, 0};
        for (int what = 0; what < 6; what++) due("27: count(" + what + ")", b.count(what), counts[what]);
        b.ask(0, 0);
        due("27: count(5)", b.count(5), 1);
        b.use(-1);
        due("27: count(2)", b.count(2), -1);
        due("27: count(5) then", b.count(5), 0);
        int[] none = {-1, 6, 7, MIN, MAX};
        for (int what : none) due("27: count(" + what + ")", b.count(what), -1);
    }

    private static void refusedCallsChangeNothing() {
        NeighbourBoard b = two();
        Dues.lay(b, 0, 1, 1, 0);
        b.table(0);
        Dues.lay(b, 0, 1, 2, 7, 7, 7, 7, 8);
        b.ask(1, 0);
        b.answer(1);
        b.row(0, 9, 1);
        b.row(0, 0, -1);
        b.tear(5);
        b.write(0, 6, 1);
        due("refused: seen(0)", b.seen(0), -6);
        due("refused: mean(0)", b.mean(0) == 0, true);
        b.ask(1, 0);
        b.see(0, 0, 1, 1);
        b.drop(2);
        b.straight(0);
        b.capped(1, 0);
        due("refused: table(0)", b.table(0), 2);
        b.sum(0, 9);
        b.use(9);
        b.nearest(9);
        b.ask(21, 0);
        b.answer(12);
        b.leftOut(2);
        b.band(5, 9);
        result("refused: RESULT", b, 3, 2);
        answer("refused: ANSWER", b, 0, 25, 2);
        due("refused: count(0)", b.count(0), 2);
        due("refused: count(1)", b.count(1), 3);
        due("refused: count(2)", b.count(2), 0);
        due("refused: count(3)", b.count(3), 8);
    }
}
