/**
 * The edges of the promises 15 to 27 (the ANSWER, LEFT OUT, ALLOWED, bands, the RESULT, what can be
 * looked at), a test for each sentence that names one.
 */
public final class AnswerEdgesTest {
    private static final int MIN = Integer.MIN_VALUE;
    private static final int MAX = Integer.MAX_VALUE;
    private static final Dues dues = new Dues();

    public static void main(String[] args) throws ReflectiveOperationException {
        dues.runAll(AnswerEdgesTest.class);
        dues.end();
    }

    private static void due(String call, long got, long want) {
        dues.due(call, got, want);
    }

    private static void due(String call, boolean got, boolean want) {
        dues.due(call, got, want);
    }

    private static int table(NeighbourBoard b, long... numbers) {
        Dues.lay(b, 0, 2, numbers);
        return b.table(0);
    }

    private static int mean(NeighbourBoard b, long... numbers) {
        Dues.lay(b, 1, 1, numbers);
        return b.mean(1);
    }

    /** Numbers 10 at (0, 0) and 20 at (4, 0), straight(1) USED. */
    private static NeighbourBoard two() {
        NeighbourBoard b = new NeighbourBoard();
        b.see(0, 0, 10, 0);
        b.see(4, 0, 20, 0);
        b.use(b.straight(1));
        return b;
    }

    /** Numbers 1, 2, 4 at (0, 0), (1, 0), (2, 0), straight(1) USED. */
    private static NeighbourBoard three() {
        NeighbourBoard b = new NeighbourBoard();
        b.see(0, 0, 1, 0);
        b.see(1, 0, 2, 0);
        b.see(2, 0, 4, 0);
        b.use(b.straight(1));
        return b;
    }

    /** -4: "there is no such PLACE" */
    static void promise15NoSuchPlace() {
        NeighbourBoard b = two();
        dues.each("ask at x", 0, x -> b.ask(x, 0), -20, 20);
        dues.each("ask at y", 0, y -> b.ask(0, y), -20, 20);
        dues.each("ask at x", -4, x -> b.ask(x, 0), -21, 21, MIN, MAX);
        dues.each("ask at y", -4, y -> b.ask(0, y), -21, 21, MIN, MAX);
    }

    /** The WAY of "the sizes of both differences together" goes to 80. */
    static void promise15FarthestWay() {
        NeighbourBoard b = new NeighbourBoard();
        b.use(b.straight(100));
        b.see(-20, -20, 1000, 100);
        b.ask(20, 20);
        dues.answer("from corner to corner", b, 2, 8100, 1);
        dues.answer("from corner to corner", b, 1, 16100, 1);
        b.ask(-20, 20);
        dues.answer("along one side", b, 2, 4100, 1);
        b.ask(-19, -21 + 2);
        dues.answer("one step each way", b, 2, 300, 1);
    }

    /** -5: "no LAW is USED" */
    static void promise15NoLawUsed() {
        NeighbourBoard b = new NeighbourBoard();
        b.see(0, 0, 1, 0);
        due("no LAWS", b.ask(0, 0), -5);
        b.straight(1);
        due("a LAW that is not USED", b.ask(0, 0), -5);
        b.use(0);
        due("USED", b.ask(0, 0), 0);
        b.use(-1);
        due("no more", b.ask(0, 0), -5);
    }

    /** -5: "or nothing is SEEN" */
    static void promise15NothingSeen() {
        NeighbourBoard b = new NeighbourBoard();
        b.use(b.straight(1));
        due("nothing SEEN", b.ask(0, 0), -5);
        b.see(0, 0, 1, 0);
        due("one SEEN", b.ask(0, 0), 0);
        b.drop(0);
        due("no more", b.ask(0, 0), -5);
        Dues.lay(b, 0, 0, 0);
        b.seen(0);
        due("none by seen()", b.ask(0, 0), -5);
    }

    /** -7: "there are no such WEIGHTS": G is 0 for both, but not for the PLACE. */
    static void promise15NoWeights() {
        NeighbourBoard b = new NeighbourBoard();
        b.see(0, 0, 1, 0);
        b.see(3, 0, 2, 0);
        b.use(table(b, 3, 0, 5, 0));
        due("ask(1, 0)", b.ask(1, 0), -7);
        due("count(5)", b.count(5), 0);
    }

    /** -7: "or not just one row of them": G is 0 everywhere. */
    static void promise15NotJustOneRow() {
        NeighbourBoard b = new NeighbourBoard();
        b.see(0, 0, 1, 0);
        b.see(3, 0, 2, 0);
        b.use(table(b, 1, 0));
        due("ask(1, 0)", b.ask(1, 0), -7);
        due("ask(0, 0) where one is SEEN", b.ask(0, 0), -7);
        due("count(5)", b.count(5), 0);
        b.nearest(1);
        due("by one alone", b.ask(1, 0), 0);
        dues.answer("by one alone", b, 0, 1, 1);
    }

    /** The least DOUBT that there is makes it one row; a DOUBT can also make it none. */
    static void promise15DoubtDecides() {
        NeighbourBoard b = new NeighbourBoard();
        b.see(0, 0, 10, 0);
        b.see(3, 0, 20, 1);
        b.use(table(b, 1, 0));
        due("with a DOUBT of 1", b.ask(1, 0), 0);
        dues.answer("all of the sure one", b, 10, 1, 1);
        dues.answer("none of the other", b, 11, 0, 1);
        NeighbourBoard four = new NeighbourBoard();
        int[][] corners = {{0, 0}, {1, 0}, {0, 1}, {1, 1}};
        for (int[] c : corners) four.see(c[0], c[1], 1, 0);
        four.use(four.straight(1));
        due("a square by straight", four.ask(5, 5), -7);
        four.drop(3);
        four.see(1, 1, 1, 1);
        due("a square with a DOUBT of 1", four.ask(5, 5), 0);
    }

    /** The least and the greatest DOUBT, of the first and of the last. */
    static void promise15DoubtOfFirstAndLast() {
        // By u and v: 4 v - d u + m = 1; 4 u - e v + m = 3; u + v = 1.
        doubts(0, 0, new int[] {25, 2}, new int[] {1, 4}, new int[] {0, 1}, new int[] {3, 2});
        doubts(2, 0, new int[] {14, 1}, new int[] {2, 5}, new int[] {3, 5}, new int[] {12, 5});
        doubts(0, 2, new int[] {12, 1}, new int[] {1, 5}, new int[] {1, 5}, new int[] {8, 5});
        doubts(100, 0, new int[] {175, 9}, new int[] {17, 18}, new int[] {25, 9}, new int[] {17, 3});
        doubts(0, 100, new int[] {275, 27}, new int[] {1, 54}, new int[] {25, 27}, new int[] {53, 27});
        doubts(100, 100, new int[] {775, 52}, new int[] {51, 104}, new int[] {50, 1}, new int[] {2703, 52});
    }

    private static void doubts(int d, int e, int[] guess, int[] last, int[] price, int[] spread) {
        NeighbourBoard b = new NeighbourBoard();
        b.see(0, 0, 10, d);
        b.see(4, 0, 20, e);
        b.use(b.straight(1));
        String call = "by doubts of " + d + ", " + e;
        due(call, b.ask(1, 0), 0);
        dues.answer(call, b, 0, guess[0], guess[1]);
        dues.answer(call, b, 1, spread[0], spread[1]);
        dues.answer(call, b, 2, price[0], price[1]);
        dues.answer(call, b, 10, last[1] - last[0], last[1]);
        dues.answer(call, b, 11, last[0], last[1]);
    }

    /** -2: "there is no such SLOT" */
    static void promise16NoSuchSlot() {
        NeighbourBoard b = two();
        for (int slot = 0; slot < 8; slot++) Dues.lay(b, slot, 0, 1, 1, 0);
        dues.each("mean", 0, b::mean, 0, 7);
        dues.each("mean", -2, b::mean, -1, 8, MIN, MAX);
    }

    /** -5: "it has nothing" */
    static void promise16NothingThere() {
        NeighbourBoard b = two();
        Dues.lay(b, 1, 0, 1, 1, 0);
        due("mean(0)", b.mean(0), -5);
        due("mean(2)", b.mean(2), -5);
        due("mean(1)", b.mean(1), 0);
        b.tear(1);
        due("mean(1) when it is torn", b.mean(1), -5);
    }

    /** "how many (1 to 6)" */
    static void promise16HowMany1To6() {
        NeighbourBoard b = two();
        b.row(0, 1, 15);
        for (int i = 0; i < 7; i++) b.write(0, 1 + 2 * i, i % 3);
        for (int many = 1; many <= 6; many++) {
            b.write(0, 0, many);
            due("mean of " + many, b.mean(0), 0);
        }
        int[] refused = {0, 7, -1, 127, 1000};
        for (int many : refused) {
            b.write(0, 0, many);
            due("mean of " + many, b.mean(0), -4);
        }
    }

    /** -6: "the ROW ends ahead of one", at every number that there is to read. */
    static void promise16RowEnds() {
        for (int n = 0; n <= 14; n++) {
            NeighbourBoard b = two();
            b.row(0, 0, n);
            b.write(0, 0, 6);
            due("mean of " + n + " numbers", b.mean(0), n < 13 ? -6 : 0);
            due("count(5)", b.count(5), n < 13 ? 0 : 1);
        }
    }

    /** -4: x and y are -20 to 20, of the first and of the last. */
    static void promise16Places() {
        NeighbourBoard b = two();
        b.row(0, 1, 13);
        b.write(0, 0, 6);
        int[] at = {1, 2, 11, 12};
        for (int i : at) {
            int[] values = {20, 21, -20, -21};
            for (int k = 0; k < 4; k++) {
                b.write(0, i, values[k]);
                due("mean with " + values[k] + " at " + i, b.mean(0), k % 2 == 0 ? 0 : -4);
            }
            b.write(0, i, 0);
        }
    }

    /** "then -6, -4 as of seen()": one by one, the first that is amiss counts. */
    static void promise16OneByOne() {
        NeighbourBoard b = two();
        due("how many is amiss, and the end", mean(b, 7), -4);
        due("how many is 0, and the end", mean(b, 0), -4);
        due("the end", mean(b, 1), -6);
        due("x is amiss, then the end", mean(b, 1, 21), -4);
        due("the end ahead of y", mean(b, 1, 20), -6);
        due("y is amiss, then the end", mean(b, 2, 20, -21), -4);
        due("the end ahead of the second", mean(b, 2, 20, -20), -6);
        due("what stands behind is not read", mean(b, 1, 20, -20, 99), 0);
    }

    /** "(one may come again)": twice, and all six alike. */
    static void promise16OneMayComeAgain() {
        NeighbourBoard b = two();
        due("twice", mean(b, 2, 1, 0, 1, 0), 0);
        dues.answer("twice", b, 0, 25, 2);
        dues.answer("twice", b, 1, 3, 2);
        due("six times", mean(b, 6, 1, 0, 1, 0, 1, 0, 1, 0, 1, 0, 1, 0), 0);
        dues.answer("six times", b, 0, 25, 2);
        dues.answer("six times", b, 1, 3, 2);
    }

    /** "the mean over all pairs of q (each one with itself, too, each two both ways round)" */
    static void termsMeanOverAllPairs() {
        NeighbourBoard b = new NeighbourBoard();
        b.use(b.straight(1));
        b.see(0, 0, 5, 0);
        // Means of WAYS: 1 + 3 by 2; pairs: 0, 2, 2, 0 by 4.
        mean(b, 2, 1, 0, 3, 0);
        dues.answer("of two", b, 1, 3, 1);
        dues.answer("of two", b, 2, 2, 1);
        // 1 + 1 + 3 by 3; pairs: 2 four times by 9.
        mean(b, 3, 1, 0, 1, 0, 3, 0);
        dues.answer("one comes again", b, 1, 22, 9);
        dues.answer("one comes again", b, 2, 5, 3);
    }

    /** -10: "no LAW is USED" */
    static void promise16NoLawUsed() {
        NeighbourBoard b = two();
        b.use(-1);
        due("mean", mean(b, 1, 0, 0), -10);
        b.use(0);
        due("mean then", mean(b, 1, 0, 0), 0);
    }

    /** -10: "or nothing is SEEN" */
    static void promise16NothingSeen() {
        NeighbourBoard b = new NeighbourBoard();
        b.use(b.straight(1));
        due("mean", mean(b, 1, 0, 0), -10);
        b.see(0, 0, 0, 0);
        due("mean then", mean(b, 1, 0, 0), 0);
        b.drop(0);
        due("mean of none again", mean(b, 1, 0, 0), -10);
    }

    /** "-7", of no WEIGHTS, of more than one row, and none of it by one alone. */
    static void promise16NoWeights() {
        NeighbourBoard b = two();
        b.use(table(b, 1, 0));
        due("more than one row", mean(b, 2, 1, 0, 2, 0), -7);
        b.use(table(b, 4, 0, 5, 7, 0));
        due("no WEIGHTS", mean(b, 2, 1, 0, 2, 0), -7);
        b.nearest(1);
        due("by one alone", mean(b, 2, 1, 0, 2, 0), 0);
    }

    /** "false without an ANSWER" */
    static void promise17WithoutAnswer() {
        NeighbourBoard b = two();
        dues.each("answer", false, b::answer, 0, 1, 2, 10, 11);
        b.ask(1, 0);
        dues.each("answer then", true, b::answer, 0, 1, 2, 10, 11);
        b.use(0);
        dues.each("answer no more", false, b::answer, 0, 1, 2, 10, 11);
    }

    /** "or for another what" */
    static void promise17AnotherWhat() {
        NeighbourBoard b = two();
        b.ask(1, 0);
        dues.each("answer", true, b::answer, 0, 1, 2, 10, 11);
        dues.each("answer", false, b::answer, -1, 3, 4, 8, 9, 12, 13, 17, 18, MIN, MAX);
    }

    /** A what that comes round to a WEIGHT, if 10 is taken from it. */
    static void promise17WrapAround() {
        NeighbourBoard b = two();
        b.ask(1, 0);
        dues.each("answer", false, b::answer, MIN + 1, MIN + 9, MIN + 10, MIN + 11, MIN + 12, MAX - 9, MAX - 10, -10, -9);
    }

    /** "the WEIGHT of one of the SEEN (10 + i ..)": up to the eighth. */
    static void promise17WeightsOfEight() {
        NeighbourBoard b = new NeighbourBoard();
        b.use(b.capped(1, 1));
        for (int many = 1; many <= 8; many++) {
            b.see(many, 0, 0, 0);
            b.ask(0, 0);
            for (int i = 0; i < many; i++) dues.answer("of " + many, b, 10 + i, 1, many);
            due("answer(" + (10 + many) + ")", b.answer(10 + many), false);
        }
    }

    /** "0 if it was not USED" */
    static void promise17NotUsed() {
        NeighbourBoard b = two();
        b.nearest(1);
        b.ask(0, 0);
        dues.answer("not USED", b, 11, 0, 1);
        dues.answer("USED", b, 10, 1, 1);
        b.ask(4, 0);
        dues.answer("not USED then", b, 10, 0, 1);
        dues.answer("USED then", b, 11, 1, 1);
    }

    /** "false if there is none such" */
    static void promise18NoneSuch() {
        NeighbourBoard b = three();
        dues.each("leftOut", true, b::leftOut, 0, 1, 2);
        dues.each("leftOut", false, b::leftOut, -1, 3, 8, MIN, MAX);
        for (int i = 0; i < 5; i++) b.see(i, 5, i, 1);
        due("leftOut(7)", b.leftOut(7), true);
        due("leftOut(8)", b.leftOut(8), false);
    }

    /** "it is the only one" */
    static void promise18TheOnlyOne() {
        NeighbourBoard b = two();
        due("of two", b.leftOut(0), true);
        dues.result("of two", b, -10, 1);
        due("the second of two", b.leftOut(1), true);
        dues.result("the second of two", b, 10, 1);
        b.drop(1);
        due("of one", b.leftOut(0), false);
        b.drop(0);
        due("of none", b.leftOut(0), false);
        dues.result("the RESULT stays", b, 10, 1);
    }

    /** "no LAW is USED" */
    static void promise18NoLawUsed() {
        NeighbourBoard b = two();
        b.use(-1);
        due("leftOut(0)", b.leftOut(0), false);
        b.use(0);
        due("leftOut(0) then", b.leftOut(0), true);
    }

    /** "there are no such WEIGHTS": the others are unlike by 0, but not both by the same from it. */
    static void promise18NoWeights() {
        NeighbourBoard b = new NeighbourBoard();
        b.see(-1, 0, 7, 0);
        b.see(1, 0, 2, 0);
        b.see(2, 0, 4, 0);
        b.use(table(b, 2, 5, 0));
        due("leftOut(1)", b.leftOut(1), false);
        due("leftOut(0) by two neighbours", b.leftOut(0), true);
        due("leftOut(2)", b.leftOut(2), false);
        dues.result("the RESULT stays", b, 4, 1);
    }

    /** "or not just one row of them" */
    static void promise18NotJustOneRow() {
        NeighbourBoard b = three();
        b.use(table(b, 1, 0));
        dues.each("leftOut", false, b::leftOut, 0, 1, 2);
        b.drop(2);
        dues.each("leftOut by one other", true, b::leftOut, 0, 1);
    }

    /** "(NEAREST does not matter)"; its own DOUBT neither. */
    static void termsLeftOutByAllTheOthers() {
        for (int k = 1; k <= 8; k++) {
            NeighbourBoard b = new NeighbourBoard();
            b.see(0, 0, 1, 0);
            b.see(1, 0, 2, 100);
            b.see(2, 0, 4, 0);
            b.use(b.straight(1));
            b.nearest(k);
            due("leftOut(1)", b.leftOut(1), true);
            dues.result("by both others", b, -1, 2);
            due("count(3)", b.count(3), k);
        }
    }

    /** "NONE if one of the SEEN can't be LEFT OUT so": the first, one between, the last. */
    static void promise19OneCantBeLeftOut() {
        NeighbourBoard b = three();
        due("worst()", b.worst(), 2);
        b.use(table(b, 2, 5, 0));
        due("the middle can't", b.worst(), -1);
        int[][] orders = {{0, 1, 2}, {1, 0, 2}, {1, 2, 0}};
        for (int[] order : orders) {
            NeighbourBoard c = new NeighbourBoard();
            for (int x : order) c.see(x, 0, x * x, 0);
            c.use(table(c, 2, 5, 0));
            int can = 0;
            for (int i = 0; i < 3; i++) can += c.leftOut(i) ? 1 : 0;
            due("how many can", can, 2);
            due("worst()", c.worst(), -1);
        }
    }

    /** "or nothing is SEEN"; and one alone can't be LEFT OUT; no LAW. */
    static void promise19NothingSeen() {
        NeighbourBoard b = two();
        due("of two", b.worst(), 0);
        b.drop(0);
        due("of one", b.worst(), -1);
        b.drop(0);
        due("of none", b.worst(), -1);
        NeighbourBoard c = two();
        c.use(-1);
        due("no LAW USED", c.worst(), -1);
    }

    /** WORST is of "the greatest size", below 0 too; "of alike ones the lowest number". */
    static void termsWorst() {
        NeighbourBoard b = three();
        // -1, -1/2, 2
        due("above 0", b.worst(), 2);
        NeighbourBoard c = new NeighbourBoard();
        c.see(0, 0, -1, 0);
        c.see(1, 0, -2, 0);
        c.see(2, 0, -4, 0);
        c.use(c.straight(1));
        due("below 0", c.worst(), 2);
        NeighbourBoard d = new NeighbourBoard();
        d.see(0, 0, 1, 0);
        d.see(1, 0, 0, 0);
        d.see(2, 0, 1, 0);
        d.use(d.straight(1));
        due("1, -1, 1", d.worst(), 0);
        NeighbourBoard e = new NeighbourBoard();
        e.see(1, 0, 0, 0);
        e.see(0, 0, 0, 0);
        e.see(2, 0, 0, 0);
        e.use(e.straight(1));
        due("all 0", e.worst(), 0);
        e.see(3, 0, 1, 0);
        // 0, 0, -1/2, 1
        due("0, 0, -1/2, 1", e.worst(), 3);
    }

    /** "NONE if there is none": no LAWS, none by which all can be LEFT OUT, one SEEN, none SEEN. */
    static void promise20None() {
        NeighbourBoard b = new NeighbourBoard();
        b.see(0, 0, 1, 0);
        b.see(1, 0, 2, 0);
        b.see(2, 0, 4, 0);
        due("no LAWS", b.best(), -1);
        table(b, 2, 5, 0);
        table(b, 1, 0);
        due("none by which all can be LEFT OUT", b.best(), -1);
        b.straight(1);
        due("one by which all can", b.best(), 2);
        b.drop(0);
        due("of two all can by any", b.best(), 0);
        b.drop(0);
        due("of one", b.best(), -1);
        b.drop(0);
        due("of nothing", b.best(), -1);
    }

    /** "of alike ones the lowest number" */
    static void promise20AlikeOnes() {
        NeighbourBoard b = three();
        b.straight(100);
        b.straight(50);
        due("straight ones are alike", b.best(), 0);
        NeighbourBoard c = three();
        c.capped(1, 1);
        // by straight(1) the worst is off by 2, by a cap of 1 by 5/2
        due("the first is the least", c.best(), 0);
        NeighbourBoard d = new NeighbourBoard();
        d.see(0, 0, 1, 0);
        d.see(1, 0, 2, 0);
        d.see(2, 0, 4, 0);
        d.capped(1, 1);
        d.straight(1);
        d.straight(2);
        d.capped(1, 1);
        due("the second is the least", d.best(), 1);
    }

    /** The sixth LAW counts too, and none has to be USED. */
    static void promise20OfSixLaws() {
        NeighbourBoard b = new NeighbourBoard();
        b.see(0, 0, 1, 0);
        b.see(1, 0, 2, 0);
        b.see(2, 0, 4, 0);
        for (int l = 0; l < 5; l++) b.capped(1, 1);
        due("of five alike", b.best(), 0);
        b.straight(1);
        due("the sixth", b.best(), 5);
        due("count(2)", b.count(2), -1);
    }

    /** "NONE if there is none such" */
    static void promise21NoneSuch() {
        NeighbourBoard b = new NeighbourBoard();
        dues.each("allowed of no LAWS", -1, b::allowed, -1, 0, 1, MIN, MAX);
        b.straight(1);
        b.straight(1);
        dues.each("allowed", 2, b::allowed, 0, 1);
        dues.each("allowed", -1, b::allowed, -1, 2, 6, MIN, MAX);
    }

    /** 2, 1, 0 by a hair: three in a line are STRICTLY below four times the first, not above. */
    static void promise21ByAHair() {
        NeighbourBoard b = new NeighbourBoard();
        b.see(0, 0, 0, 0);
        b.see(1, 0, 0, 0);
        b.see(2, 0, 0, 0);
        table(b, 2, 1, 3);
        table(b, 2, 1, 4);
        table(b, 2, 1, 5);
        table(b, 2, 2000, 7999);
        table(b, 2, 2000, 8000);
        table(b, 2, 1999, 8000);
        int[] allowed = {2, 1, 0, 2, 1, 0};
        for (int l = 0; l < 6; l++) due("allowed(" + l + ")", b.allowed(l), allowed[l]);
    }

    /** Those that are unlike by 0 must be alike to all others. */
    static void promise21UnlikeBy0() {
        NeighbourBoard b = new NeighbourBoard();
        b.see(0, 0, 0, 0);
        b.see(1, 0, 0, 0);
        b.see(3, 0, 0, 0);
        table(b, 3, 0, 5, 5);
        table(b, 3, 0, 5, 6);
        table(b, 3, 0, 6, 5);
        table(b, 3, 5, 0, 5);
        table(b, 3, 5, 5, 0);
        table(b, 3, 0, 0, 1);
        int[] allowed = {1, 0, 0, 1, 1, 0};
        for (int l = 0; l < 6; l++) due("allowed(" + l + ")", b.allowed(l), allowed[l]);
    }

    /** "for all numbers c .. that come to 0 together": of one and of none c is all 0. */
    static void promise21OneOrNoneSeen() {
        NeighbourBoard b = new NeighbourBoard();
        table(b, 1, 0);
        due("of none", b.allowed(0), 2);
        b.see(0, 0, 0, 0);
        due("of one", b.allowed(0), 2);
        b.see(1, 0, 0, 0);
        due("of two", b.allowed(0), 1);
    }

    /** Of two: STRICTLY, if they are unlike at all. */
    static void promise21OfTwo() {
        NeighbourBoard b = new NeighbourBoard();
        b.see(0, 0, 0, 0);
        b.see(2, 0, 0, 0);
        table(b, 2, 5, 0);
        table(b, 2, 0, 1);
        table(b, 2, 0, 8000);
        due("unlike by 0", b.allowed(0), 1);
        due("unlike by 1", b.allowed(1), 2);
        due("unlike by 8000", b.allowed(2), 2);
    }

    /** DOUBTS, NEAREST and the LAW that is USED do not matter. */
    static void promise21NothingElseMatters() {
        NeighbourBoard b = new NeighbourBoard();
        for (int i = 0; i < 4; i++) b.see(i % 2, i / 2, i, 100);
        b.use(b.capped(1, 1));
        b.straight(1);
        b.nearest(1);
        due("a square by straight", b.allowed(1), 1);
        due("a square by a cap", b.allowed(0), 2);
    }

    /** "(both with it)" */
    static void promise22BothWithIt() {
        NeighbourBoard b = new NeighbourBoard();
        b.see(0, 0, 0, 0);
        b.see(5, 0, 0, 0);
        due("pairs(5, 5)", b.pairs(5, 5), 1);
        due("pairs(4, 5)", b.pairs(4, 5), 1);
        due("pairs(5, 6)", b.pairs(5, 6), 1);
        due("pairs(0, 4)", b.pairs(0, 4), 0);
        due("pairs(6, 80)", b.pairs(6, 80), 0);
    }

    /** The nearest WAY of two is 1, the farthest 80; a band may go beyond. */
    static void promise22NearestAndFarthest() {
        NeighbourBoard b = new NeighbourBoard();
        b.see(-20, -20, 0, 0);
        b.see(20, 20, 0, 0);
        b.see(20, 19, 0, 0);
        due("pairs(80, 80)", b.pairs(80, 80), 1);
        due("pairs(79, 79)", b.pairs(79, 79), 1);
        due("pairs(1, 1)", b.pairs(1, 1), 1);
        due("pairs(0, 0)", b.pairs(0, 0), 0);
        due("pairs(2, 78)", b.pairs(2, 78), 0);
        due("pairs(81, 81)", b.pairs(81, 81), 0);
        due("pairs(-5, 100)", b.pairs(-5, 100), 3);
        due("pairs(MIN, MAX)", b.pairs(MIN, MAX), 3);
    }

    /** From above to: no pair is both. */
    static void promise22UpsideDown() {
        NeighbourBoard b = new NeighbourBoard();
        b.see(0, 0, 0, 0);
        b.see(5, 0, 0, 0);
        due("pairs(6, 4)", b.pairs(6, 4), 0);
        due("pairs(5, 4)", b.pairs(5, 4), 0);
        due("pairs(6, 5)", b.pairs(6, 5), 0);
        due("pairs(MAX, MIN)", b.pairs(MAX, MIN), 0);
    }

    /** Of none and of one there are no pairs; of eight 28, each once. */
    static void promise22OfNoneToEight() {
        NeighbourBoard b = new NeighbourBoard();
        due("of none", b.pairs(0, 80), 0);
        int pairs = 0;
        for (int i = 0; i < 8; i++) {
            b.see(i, 0, 0, 0);
            pairs += i;
            due("of " + (i + 1), b.pairs(0, 80), pairs);
        }
        due("pairs(1, 1)", b.pairs(1, 1), 7);
        due("pairs(7, 7)", b.pairs(7, 7), 1);
    }

    /** "false if there are no such pairs" */
    static void promise23NoSuchPairs() {
        NeighbourBoard b = new NeighbourBoard();
        due("of none", b.band(0, 80), false);
        b.see(0, 0, 3, 0);
        due("of one", b.band(0, 80), false);
        b.see(5, 0, 8, 0);
        due("band(5, 5)", b.band(5, 5), true);
        dues.result("band(5, 5)", b, 25, 2);
        due("band(0, 4)", b.band(0, 4), false);
        due("band(6, 80)", b.band(6, 80), false);
        due("band(6, 4)", b.band(6, 4), false);
        due("band(MAX, MIN)", b.band(MAX, MIN), false);
        dues.result("the RESULT stays", b, 25, 2);
        due("band(MIN, MAX)", b.band(MIN, MAX), true);
    }

    /** The least and the greatest differences there are. */
    static void promise23LeastAndGreatest() {
        NeighbourBoard b = new NeighbourBoard();
        b.see(0, 0, 7, 0);
        b.see(1, 0, 7, 0);
        due("alike", b.band(1, 1), true);
        dues.result("alike", b, 0, 1);
        b.see(1, 1, 8, 0);
        due("off by 1 and 0", b.band(1, 1), true);
        dues.result("off by 1 and 0", b, 1, 4);
        NeighbourBoard far = new NeighbourBoard();
        for (int i = 0; i < 8; i++) far.see(i, 0, i % 2 == 0 ? 1000 : -1000, 0);
        due("the greatest", far.band(1, 1), true);
        dues.result("the greatest", far, 2000000, 1);
        due("16 of 28 pairs", far.band(0, 80), true);
        dues.result("16 of 28 pairs", far, 8000000, 7);
    }

    /** "0 1, 0 or -1, as it is above 0, 0, below" */
    static void promise24Sign() {
        NeighbourBoard b = three();
        due("of 0", b.look(0), 0);
        b.leftOut(0);
        due("below", b.look(0), -1);
        b.leftOut(2);
        due("above", b.look(0), 1);
        b.see(3, 0, 4, 0);
        b.see(4, 0, 4, 0);
        b.see(5, 0, 4, 0);
        b.leftOut(4);
        due("0 again", b.look(0), 0);
        dues.result("0 again", b, 0, 1);
    }

    /** "NONE for another what" */
    static void promise24AnotherWhat() {
        NeighbourBoard b = three();
        b.leftOut(1);
        dues.each("look", -1, b::look, -2, 3, 4, MIN, MAX);
        due("look(-1)", b.look(-1), -1);
        b.leftOut(2);
        dues.each("look of one above 0", -1, b::look, -1, 3, MIN, MAX);
    }

    /** A RESULT whose top is just that: by the TABLE and NUMBERS the last one is LEFT OUT. */
    private static NeighbourBoard withTop(int[] law, int[] numbers) {
        NeighbourBoard b = new NeighbourBoard();
        long[] row = new long[7];
        row[0] = 6;
        for (int way = 1; way <= 6; way++) row[way] = law[way - 1];
        b.use(table(b, row));
        int[][] places = {{0, 0}, {1, 0}, {0, 2}, {3, 3}};
        for (int i = 0; i < 4; i++) b.see(places[i][0], places[i][1], i == 0 ? 0 : numbers[i - 1], 0);
        due("leftOut(3)", b.leftOut(3), true);
        return b;
    }

    /** "how many parts of nine digits its top has": 999999999 is one, 1000000000 two. */
    static void promise24PartsOfTheTop() {
        int[] law = {1037, 720, 514, 596, 380, 1221};
        NeighbourBoard b = withTop(law, new int[] {-193, 236, 630});
        due("look(1) of 999999999", b.look(1), 1);
        due("part(false, 0)", b.part(false, 0), 999999999);
        due("part(false, 1)", b.part(false, 1), 0);
        due("part(true, 0)", b.part(true, 0), 1441511);
        NeighbourBoard c = withTop(law, new int[] {193, -236, -630});
        due("look(0) of -999999999", c.look(0), -1);
        due("look(1) of -999999999", c.look(1), 1);
        due("part(false, 0) of -999999999", c.part(false, 0), 999999999);
        int[] other = {1236, 964, 485, 1044, 780, 1254};
        NeighbourBoard d = withTop(other, new int[] {2, -872, 564});
        due("look(1) of 1000000000", d.look(1), 2);
        due("part(false, 0)", d.part(false, 0), 0);
        due("part(false, 1)", d.part(false, 1), 1);
        due("part(false, 2)", d.part(false, 2), 0);
        due("look(2)", d.look(2), 1);
        due("part(true, 0)", d.part(true, 0), 1824791);
        NeighbourBoard e = withTop(other, new int[] {-2, 872, -564});
        due("look(0) of -1000000000", e.look(0), -1);
        due("look(1) of -1000000000", e.look(1), 2);
        due("part(false, 0) of -1000000000", e.part(false, 0), 0);
        due("part(false, 1) of -1000000000", e.part(false, 1), 1);
    }

    /** An ANSWER for a MEAN by three, of a SUM of two TABLES. */
    private static NeighbourBoard withBottom(int[] law, int doubt, long... asked) {
        NeighbourBoard b = new NeighbourBoard();
        long[] one = new long[law.length + 1];
        long[] other = new long[law.length + 1];
        one[0] = law.length;
        other[0] = law.length;
        for (int way = 1; way <= law.length; way++) {
            one[way] = Math.min(8000, law[way - 1]);
            other[way] = law[way - 1] - one[way];
        }
        table(b, one);
        table(b, other);
        b.use(b.sum(0, 1));
        b.see(0, 0, 0, 0);
        b.see(1, 0, 0, 1);
        b.see(0, 2, 0, doubt);
        due("mean", mean(b, asked), 0);
        return b;
    }

    /** "2 its bottom": 999999999 is one part, 1000000000 two. */
    static void promise24PartsOfTheBottom() {
        int[] law = {15995, 13401, 6503, 5059, 4965, 2687, 3783, 5938, 283, 2807, 4989};
        NeighbourBoard b = withBottom(law, 0, 3, 0, 4, 0, 6, 0, 8);
        due("answer(10)", b.answer(10), true);
        due("look(2) of 999999999", b.look(2), 1);
        due("part(true, 0)", b.part(true, 0), 999999999);
        due("part(true, 1)", b.part(true, 1), 0);
        due("part(false, 0)", b.part(false, 0), 496369537);
        int[] other = {15994, 11730, 11897, 5734, 3660, 6210, 6581};
        NeighbourBoard c = withBottom(other, 1, 2, 0, 4, 0, 6);
        due("answer(11)", c.answer(11), true);
        due("look(1)", c.look(1), 1);
        due("look(2) of 1000000000", c.look(2), 2);
        due("part(true, 0)", c.part(true, 0), 0);
        due("part(true, 1)", c.part(true, 1), 1);
        due("part(true, 2)", c.part(true, 2), 0);
        due("part(false, 0)", c.part(false, 0), 506488171);
        due("answer(12)", c.answer(12), true);
        due("part(true, 1) of the other WEIGHT", c.part(true, 1), 1);
        due("part(false, 0) of the other WEIGHT", c.part(false, 0), 40655203);
    }

    /** "1 of 0", as at first as later. */
    static void promise24OnePartOf0() {
        NeighbourBoard b = new NeighbourBoard();
        due("look(1)", b.look(1), 1);
        due("look(2)", b.look(2), 1);
        NeighbourBoard c = withTop(new int[] {1236, 964, 485, 1044, 780, 1254}, new int[] {2, -872, 564});
        due("look(1) of 1000000000", c.look(1), 2);
        c.drop(3);
        c.drop(2);
        c.see(5, 5, 2, 0);
        c.band(9, 9);
        due("look(0) of 0", c.look(0), 0);
        due("look(1) of 0", c.look(1), 1);
        due("look(2) of 0", c.look(2), 1);
        due("part(false, 0) of 0", c.part(false, 0), 0);
        due("part(false, 1) of 0", c.part(false, 1), 0);
        due("part(true, 0) of 0", c.part(true, 0), 1);
    }

    /** "a fraction in lowest terms, its bottom above 0" */
    static void termsLowestTerms() {
        NeighbourBoard b = new NeighbourBoard();
        b.see(0, 0, 0, 0);
        b.see(1, 0, 6, 0);
        b.see(2, 0, 6, 0);
        b.band(1, 1);
        dues.result("36 by 4", b, 9, 1);
        b.band(1, 2);
        dues.result("72 by 6", b, 12, 1);
        b.use(b.straight(100));
        b.leftOut(0);
        dues.result("-6", b, -6, 1);
        b.leftOut(1);
        dues.result("3", b, 3, 1);
    }

    /** "its bottom above 0", also by a LAW that is not ALLOWED. */
    static void termsBottomAbove0() {
        NeighbourBoard b = new NeighbourBoard();
        b.see(0, 0, 1, 0);
        b.see(1, 0, 2, 0);
        b.see(2, 0, 4, 0);
        b.use(table(b, 2, 1, 8));
        due("allowed(0)", b.allowed(0), 0);
        due("ask(9, 0)", b.ask(9, 0), 0);
        // By u, v, u: v + 8 u + m = 8; 2 u + m = 8; 2 u + v = 1.
        dues.answer("far off", b, 10, -1, 4);
        dues.answer("far off", b, 11, 3, 2);
        dues.answer("far off", b, 12, -1, 4);
        dues.answer("far off", b, 2, 17, 2);
        dues.answer("far off", b, 0, 7, 4);
        dues.answer("far off", b, 1, 33, 2);
        b.see(10, 0, 0, 0);
        due("leftOut(3)", b.leftOut(3), true);
        dues.result("leftOut(3)", b, -7, 4);
    }

    /** "0 where there is none such" */
    static void promise25NoneSuch() {
        NeighbourBoard b = withTop(new int[] {1236, 964, 485, 1044, 780, 1254}, new int[] {2, -872, 564});
        dues.each("part of the top", 0, i -> b.part(false, i), -1, 2, 3, 11, 12, 13, MIN, MAX);
        dues.each("part of the bottom", 0, i -> b.part(true, i), -1, 1, 2, 11, 12, 13, MIN, MAX);
        due("part(false, 1)", b.part(false, 1), 1);
        due("part(true, 0)", b.part(true, 0), 1824791);
    }

    /** No part of an earlier RESULT stays. */
    static void promise25NoPartStays() {
        int[] other = {15994, 11730, 11897, 5734, 3660, 6210, 6581};
        NeighbourBoard b = withBottom(other, 1, 2, 0, 4, 0, 6);
        b.answer(11);
        due("look(2)", b.look(2), 2);
        b.leftOut(0);
        b.answer(0);
        dues.result("a GUESS of 0", b, 0, 1);
        due("part(true, 1)", b.part(true, 1), 0);
        due("part(false, 1)", b.part(false, 1), 0);
    }

    /** "-10000 if there is none such" */
    static void promise26NoneSuch() {
        NeighbourBoard b = new NeighbourBoard();
        dues.each("told of none", -10000, i -> b.told(i, 0), -1, 0, 1, MIN, MAX);
        for (int i = 0; i < 8; i++) b.see(i, 0, 0, 0);
        due("told(0, 0)", b.told(0, 0), 0);
        due("told(7, 0)", b.told(7, 0), 7);
        dues.each("told of eight", -10000, i -> b.told(i, 0), -1, 8, 9, MIN, MAX);
        b.drop(0);
        due("told(6, 0)", b.told(6, 0), 7);
        due("told(7, 0) of seven", b.told(7, 0), -10000);
    }

    /** "or for another what" */
    static void promise26AnotherWhat() {
        NeighbourBoard b = new NeighbourBoard();
        b.see(-20, 20, -1000, 100);
        int[] told = {-20, 20, -1000, 100};
        for (int what = 0; what < 4; what++) due("told(0, " + what + ")", b.told(0, what), told[what]);
        dues.each("told", -10000, what -> b.told(0, what), -1, 4, MIN, MAX);
    }

    /** "NONE for another what" */
    static void promise27AnotherWhat() {
        NeighbourBoard b = two();
        b.ask(0, 0);
        dues.each("count", -1, b::count, -1, 6, 7, MIN, MAX);
        due("count(0)", b.count(0), 2);
        due("count(5)", b.count(5), 1);
    }

    /** Empty and full: each count at its least and at its most. */
    static void promise27LeastAndMost() {
        NeighbourBoard b = new NeighbourBoard();
        int[] least = {0, 0, -1, 8, 0, 0};
        for (int what = 0; what < 6; what++) due("count(" + what + ") of a new one", b.count(what), least[what]);
        for (int i = 0; i < 8; i++) {
            b.see(i, 0, 0, 0);
            b.row(i, 0, 60);
            b.straight(1);
        }
        b.use(5);
        b.nearest(1);
        b.ask(0, 0);
        int[] most = {8, 6, 5, 1, 8, 1};
        for (int what = 0; what < 6; what++) due("count(" + what + ") of a full one", b.count(what), most[what]);
        for (int i = 0; i < 8; i++) {
            b.drop(0);
            b.tear(i);
        }
        b.use(-1);
        b.nearest(8);
        int[] last = {0, 6, -1, 8, 0, 0};
        for (int what = 0; what < 6; what++) due("count(" + what + ") at last", b.count(what), last[what]);
    }
}
