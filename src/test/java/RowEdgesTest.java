/**
 * The edges of the promises 1 to 7 (a new object, the ROWS, what is SEEN), a test for each sentence
 * that names one: the last value that is taken and the first that is refused, on both sides.
 */
public final class RowEdgesTest {
    private static final int MIN = Integer.MIN_VALUE;
    private static final int MAX = Integer.MAX_VALUE;
    private static final Dues dues = new Dues();

    public static void main(String[] args) throws ReflectiveOperationException {
        dues.runAll(RowEdgesTest.class);
        dues.end();
    }

    private static void due(String call, long got, long want) {
        dues.due(call, got, want);
    }

    private static void due(String call, boolean got, boolean want) {
        dues.due(call, got, want);
    }

    private static void told(NeighbourBoard b, int i, int x, int y, int number, int doubt) {
        due("told(" + i + ", 0)", b.told(i, 0), x);
        due("told(" + i + ", 1)", b.told(i, 1), y);
        due("told(" + i + ", 2)", b.told(i, 2), number);
        due("told(" + i + ", 3)", b.told(i, 3), doubt);
    }

    private static NeighbourBoard withRow(int width, long... numbers) {
        NeighbourBoard b = new NeighbourBoard();
        Dues.lay(b, 0, width, numbers);
        return b;
    }

    /** An ANSWER is there. */
    private static NeighbourBoard answered() {
        NeighbourBoard b = new NeighbourBoard();
        b.see(0, 0, 10, 0);
        b.see(4, 0, 20, 0);
        b.straight(1);
        b.use(0);
        b.ask(1, 0);
        return b;
    }

    /** "All memory is the board's own." */
    static void termsMemoryIsTheBoardsOwn() {
        NeighbourBoard one = answered();
        one.row(0, 0, 3);
        one.nearest(2);
        one.answer(0);
        NeighbourBoard other = new NeighbourBoard();
        int[] counts = {0, 0, -1, 8, 0, 0};
        for (int what = 0; what < 6; what++) due("count(" + what + ") of another", other.count(what), counts[what]);
        dues.result("of another", other, 0, 1);
        other.see(7, 7, 7, 7);
        other.capped(1, 2);
        other.row(1, 0, 1);
        other.row(2, 0, 1);
        other.band(0, 80);
        int[] still = {2, 1, 0, 2, 1, 1};
        for (int what = 0; what < 6; what++) due("count(" + what + ") of the one", one.count(what), still[what]);
        due("unlike(0, 9) of the one", one.unlike(0, 9), 9);
        told(one, 0, 0, 0, 10, 0);
        dues.result("of the one", one, 25, 2);
    }

    /** "An object is used for at most 512 calls": the last of them counts as the first. */
    static void terms512Calls() {
        NeighbourBoard b = answered();
        for (int call = 6; call <= 508; call++) due("nearest in call " + call, b.nearest(1 + call % 8), true);
        due("see in call 509", b.see(2, 0, 30, 0), 2);
        due("ask in call 510", b.ask(2, 0), 0);
        due("answer in call 511", b.answer(0), true);
        due("part in call 512", b.part(false, 0), 30);
    }

    /** "Nothing is SEEN" */
    static void promise01NothingIsSeen() {
        NeighbourBoard b = new NeighbourBoard();
        due("count(0)", b.count(0), 0);
        due("told(0, 0)", b.told(0, 0), -10000);
        due("drop(0)", b.drop(0), -2);
        due("pairs(0, 80)", b.pairs(0, 80), 0);
        due("band(0, 80)", b.band(0, 80), false);
        due("see(0, 0, 0, 0)", b.see(0, 0, 0, 0), 0);
    }

    /** "no LAWS" */
    static void promise01NoLaws() {
        NeighbourBoard b = new NeighbourBoard();
        due("count(1)", b.count(1), 0);
        due("unlike(0, 0)", b.unlike(0, 0), -1);
        due("unlike(0, 1)", b.unlike(0, 1), -1);
        due("use(0)", b.use(0), false);
        due("sum(0, 0)", b.sum(0, 0), -2);
        due("allowed(0)", b.allowed(0), -1);
        due("best()", b.best(), -1);
        due("straight(1)", b.straight(1), 0);
    }

    /** "none USED" */
    static void promise01NoneUsed() {
        NeighbourBoard b = new NeighbourBoard();
        due("count(2)", b.count(2), -1);
        b.see(0, 0, 0, 0);
        b.see(1, 0, 0, 0);
        b.straight(1);
        due("count(2) with a LAW there", b.count(2), -1);
        due("ask(0, 0)", b.ask(0, 0), -5);
        due("leftOut(0)", b.leftOut(0), false);
        due("worst()", b.worst(), -1);
    }

    /** "NEAREST 8" */
    static void promise01NearestIs8() {
        NeighbourBoard b = new NeighbourBoard();
        due("count(3)", b.count(3), 8);
        b.use(b.capped(1, 1));
        for (int i = 0; i < 8; i++) b.see(i, 0, 0, 0);
        due("ask(0, 1)", b.ask(0, 1), 0);
        for (int i = 0; i < 8; i++) dues.answer("all count alike", b, 10 + i, 1, 8);
    }

    /** "SLOTS are empty" */
    static void promise01SlotsAreEmpty() {
        NeighbourBoard b = new NeighbourBoard();
        due("count(4)", b.count(4), 0);
        for (int slot = 0; slot < 8; slot++) {
            due("tear(" + slot + ")", b.tear(slot), false);
            due("write(" + slot + ", 0, 0)", b.write(slot, 0, 0), -5);
            due("seen(" + slot + ")", b.seen(slot), -5);
            due("table(" + slot + ")", b.table(slot), -5);
            due("mean(" + slot + ")", b.mean(slot), -5);
        }
    }

    /** "no ANSWER" */
    static void promise01NoAnswer() {
        NeighbourBoard b = new NeighbourBoard();
        due("count(5)", b.count(5), 0);
        dues.each("answer", false, b::answer, -1, 0, 1, 2, 3, 9, 10, 11, 17, 18);
    }

    /** "the RESULT is 0 / 1" */
    static void promise01ResultIs0By1() {
        NeighbourBoard b = new NeighbourBoard();
        dues.result("new", b, 0, 1);
        due("part(true, 1)", b.part(true, 1), 0);
        due("part(false, 1)", b.part(false, 1), 0);
    }

    /** "SLOTS 0 to 7"; -2: "there is no such SLOT" */
    static void promise02SlotsAre0To7() {
        NeighbourBoard b = new NeighbourBoard();
        dues.each("row", 0, slot -> b.row(slot, 0, 1), 0, 1, 2, 3, 4, 5, 6, 7);
        due("count(4)", b.count(4), 8);
        dues.each("row", -2, slot -> b.row(slot, 0, 1), -1, 8, MIN, MAX);
        due("count(4) then", b.count(4), 8);
    }

    /** "WIDTH 0 to 3"; -2: "there is no such .. WIDTH" */
    static void promise02WidthsAre0To3() {
        NeighbourBoard b = new NeighbourBoard();
        dues.each("row of width", 0, width -> b.row(0, width, 1), 0, 1, 2, 3);
        dues.each("row of width", -2, width -> b.row(0, width, 1), -1, 4, MIN, MAX);
    }

    /** "at most 60"; -2: "n is above 60" */
    static void promise02AtMost60Numbers() {
        NeighbourBoard b = new NeighbourBoard();
        for (int width = 0; width < 4; width++) {
            due("row(0, " + width + ", 60)", b.row(0, width, 60), 0);
            due("write(0, 59, 1)", b.write(0, 59, 1), 0);
            due("write(0, 60, 1)", b.write(0, 60, 1), -6);
            due("row(1, " + width + ", 61)", b.row(1, width, 61), -2);
            due("row(1, " + width + ", MAX)", b.row(1, width, MAX), -2);
        }
        due("count(4)", b.count(4), 1);
    }

    /** -3: "n is below 0" */
    static void promise02NoLengthBelow0() {
        NeighbourBoard b = new NeighbourBoard();
        due("row(0, 0, -1)", b.row(0, 0, -1), -3);
        due("row(0, 3, MIN)", b.row(0, 3, MIN), -3);
        due("count(4)", b.count(4), 0);
        due("row(0, 0, 0)", b.row(0, 0, 0), 0);
        due("count(4) then", b.count(4), 1);
    }

    /** A ROW of 0 numbers is a ROW: the SLOT has something. */
    static void promise02EmptyRowIsARow() {
        NeighbourBoard b = new NeighbourBoard();
        b.row(0, 0, 0);
        due("write(0, 0, 0)", b.write(0, 0, 0), -6);
        due("seen(0)", b.seen(0), -6);
        due("table(0)", b.table(0), -6);
        due("mean(0)", b.mean(0), -6);
        due("tear(0)", b.tear(0), true);
    }

    /** "all 0": the numbers that can be read at all are 1 + 4 * 8 of what is SEEN, 1 + 40 of a TABLE. */
    static void promise02AllNumbersAre0() {
        NeighbourBoard b = new NeighbourBoard();
        b.row(0, 1, 60);
        due("seen(0) of how many 0", b.seen(0), 0);
        b.write(0, 0, 8);
        for (int i = 0; i < 8; i++) b.write(0, 1 + 4 * i, i);
        due("seen(0)", b.seen(0), 8);
        for (int i = 0; i < 8; i++) told(b, i, i, 0, 0, 0);
        b.row(1, 2, 41);
        b.write(1, 0, 40);
        due("table(1)", b.table(1), 0);
        for (int way = 1; way <= 80; way++) due("unlike(0, " + way + ")", b.unlike(0, way), 0);
    }

    /** "(in place of another one)": its numbers, its length and its WIDTH are gone. */
    static void promise02InPlaceOfAnother() {
        NeighbourBoard b = new NeighbourBoard();
        b.row(0, 1, 60);
        for (int i = 0; i < 60; i++) b.write(0, i, 7);
        due("row(0, 1, 2)", b.row(0, 1, 2), 0);
        due("seen(0): its first number is 0", b.seen(0), 0);
        due("write(0, 2, 1)", b.write(0, 2, 1), -6);
        due("count(4)", b.count(4), 1);
        due("row(0, 0, 60)", b.row(0, 0, 60), 0);
        due("write(0, 59, 1)", b.write(0, 59, 1), 0);
        b.write(0, 0, 40);
        due("table(0)", b.table(0), 0);
        for (int way = 1; way <= 40; way++) due("unlike(0, " + way + ")", b.unlike(0, way), 0);
        b.write(0, 0, 256 + 1);
        b.write(0, 1, 256 + 2);
        due("seen(0) of one byte", b.seen(0), 1);
        told(b, 0, 2, 0, 0, 0);
    }

    /** Each SLOT's ROW is its own: calls on one leave the numbers, lengths and WIDTHS of the others. */
    static void promise02OtherSlotsStay() {
        NeighbourBoard b = new NeighbourBoard();
        for (int slot = 0; slot < 8; slot++) Dues.lay(b, slot, slot % 4, 1, slot, -slot, 10 + slot, 20 + slot);
        b.row(3, 0, 60);
        b.row(4, 3, 0);
        b.tear(2);
        b.write(6, 1, 16);
        b.seen(0);
        b.see(9, 9, 9, 9);
        b.straight(1);
        int[] stay = {0, 1, 5, 7};
        for (int slot : stay) {
            due("seen(" + slot + ")", b.seen(slot), 1);
            told(b, 0, slot, -slot, 10 + slot, 20 + slot);
            due("write(" + slot + ", 5, 0)", b.write(slot, 5, 0), -6);
            b.write(slot, 1, 1L << 32);
            due("seen(" + slot + ") of 1L << 32", b.seen(slot), slot % 4 == 3 ? -4 : 1);
            b.write(slot, 1, 256);
            due("seen(" + slot + ") of 256", b.seen(slot), slot % 4 == 0 ? 1 : -4);
        }
        due("seen(6)", b.seen(6), 1);
        told(b, 0, 16, -6, 16, 26);
    }

    /** "The SLOT has nothing: true" */
    static void promise03SlotHasNothing() {
        NeighbourBoard b = new NeighbourBoard();
        for (int slot = 0; slot < 8; slot++) b.row(slot, 0, 5);
        for (int slot = 0; slot < 8; slot++) {
            due("tear(" + slot + ")", b.tear(slot), true);
            due("count(4)", b.count(4), 7 - slot);
            due("write(" + slot + ", 0, 0)", b.write(slot, 0, 0), -5);
            due("seen(" + slot + ")", b.seen(slot), -5);
            due("table(" + slot + ")", b.table(slot), -5);
            due("mean(" + slot + ")", b.mean(slot), -5);
        }
    }

    /** "false, if it had nothing": never had, or no more. */
    static void promise03HadNothing() {
        NeighbourBoard b = new NeighbourBoard();
        due("tear(3)", b.tear(3), false);
        b.row(3, 0, 1);
        due("tear(2)", b.tear(2), false);
        due("tear(3) of one", b.tear(3), true);
        due("tear(3) again", b.tear(3), false);
        due("row(3, 0, 1) after all", b.row(3, 0, 1), 0);
        due("tear(3) after all", b.tear(3), true);
    }

    /** "or there is none such" */
    static void promise03NoSuchSlot() {
        NeighbourBoard b = new NeighbourBoard();
        for (int slot = 0; slot < 8; slot++) b.row(slot, 0, 1);
        dues.each("tear", false, b::tear, -1, 8, MIN, MAX);
        due("count(4)", b.count(4), 8);
    }

    /** -2: "there is no such SLOT" */
    static void promise04NoSuchSlot() {
        NeighbourBoard b = new NeighbourBoard();
        for (int slot = 0; slot < 8; slot++) b.row(slot, 0, 1);
        dues.each("write", 0, slot -> b.write(slot, 0, 1), 0, 7);
        dues.each("write", -2, slot -> b.write(slot, 0, 1), -1, 8, MIN, MAX);
    }

    /** -5: "it has nothing" */
    static void promise04NothingThere() {
        NeighbourBoard b = new NeighbourBoard();
        b.row(1, 0, 1);
        due("write(0, 0, 1)", b.write(0, 0, 1), -5);
        due("write(2, 0, 1)", b.write(2, 0, 1), -5);
        b.tear(1);
        due("write(1, 0, 1)", b.write(1, 0, 1), -5);
    }

    /** -6: "there is no such number" */
    static void promise04NoSuchNumber() {
        NeighbourBoard b = new NeighbourBoard();
        int[] lengths = {0, 1, 2, 59, 60};
        for (int n : lengths) {
            b.row(0, 0, n);
            if (n > 0) dues.each("write to a row of " + n, 0, i -> b.write(0, i, 1), 0, n - 1);
            dues.each("write to a row of " + n, -6, i -> b.write(0, i, 1), -1, n, n + 1, 60, MIN, MAX);
        }
    }

    /** Number i and no other one. */
    static void promise04NumberIAlone() {
        NeighbourBoard b = new NeighbourBoard();
        b.row(0, 1, 5);
        b.row(1, 1, 5);
        b.write(0, 0, 1);
        for (int i = 1; i < 5; i++) {
            b.write(0, i, 5 + i);
            due("seen(0) of " + i, b.seen(0), 1);
            for (int what = 0; what < 4; what++) due("told(0, " + what + ")", b.told(0, what), what < i ? 6 + what : 0);
        }
        due("seen(1)", b.seen(1), 0);
    }

    /** "cut to its WIDTH", 1 byte: -128 to 127. */
    static void promise04CutTo1Byte() {
        cut(0, 127, 127);
        cut(0, 128, -128);
        cut(0, -128, -128);
        cut(0, -129, 127);
        cut(0, 255, -1);
        cut(0, 256, 0);
        cut(0, -256, 0);
        cut(0, 257, 1);
        cut(0, Long.MAX_VALUE, -1);
        cut(0, Long.MIN_VALUE, 0);
    }

    /** 2 bytes: what lies from 32767 to -32768 can't be read, as no number may be so large. */
    static void promise04CutTo2Bytes() {
        cut(1, 1000, 1000);
        cut(1, 65535, -1);
        cut(1, 65536, 0);
        cut(1, 65536 + 1000, 1000);
        cut(1, 65536 - 1000, -1000);
        cut(1, -65536, 0);
        cut(1, -65536 - 1000, -1000);
        cut(1, Long.MAX_VALUE, -1);
        cut(1, Long.MIN_VALUE, 0);
        tooLarge(1, 128);
        tooLarge(1, 32767);
        tooLarge(1, 32768);
        tooLarge(1, -32768);
        tooLarge(1, -32769);
    }

    /** 4 bytes. */
    static void promise04CutTo4Bytes() {
        long wide = 1L << 32;
        cut(2, 1000, 1000);
        cut(2, wide - 1, -1);
        cut(2, wide, 0);
        cut(2, wide + 1000, 1000);
        cut(2, wide - 1000, -1000);
        cut(2, -wide - 1000, -1000);
        cut(2, Long.MAX_VALUE, -1);
        cut(2, Long.MIN_VALUE, 0);
        tooLarge(2, 65536);
        tooLarge(2, MAX);
        tooLarge(2, MIN);
        tooLarge(2, MAX + 1L);
        tooLarge(2, MIN - 1L);
    }

    /** 8 bytes: nothing is cut. */
    static void promise04CutTo8Bytes() {
        long wide = 1L << 32;
        cut(3, 1000, 1000);
        cut(3, -1000, -1000);
        tooLarge(3, wide);
        tooLarge(3, wide + 1);
        tooLarge(3, -wide);
        tooLarge(3, -wide + 1);
        tooLarge(3, wide << 16);
        tooLarge(3, Long.MAX_VALUE);
        tooLarge(3, Long.MIN_VALUE);
    }

    private static void cut(int width, long v, int number) {
        NeighbourBoard b = withRow(width, 1, 0, 0, v, 0);
        due("seen(0) of " + v, b.seen(0), 1);
        due(v + " of width " + width, b.told(0, 2), number);
    }

    /** It is refused wherever it stands: no cut to an int brings it back. */
    private static void tooLarge(int width, long v) {
        boolean asX = v < -20 || v > 20;
        for (int at = 0; at < 5 && asX; at++) {
            NeighbourBoard b = withRow(width, 1, 0, 0, 0, 0);
            b.write(0, at, v);
            boolean fits = at == 3 && v >= -1000 && v <= 1000;
            due("seen(0) of " + v + " at " + at, b.seen(0), fits ? 1 : -4);
        }
    }

    /** "how many (0 to 8)" */
    static void promise05HowMany0To8() {
        NeighbourBoard b = new NeighbourBoard();
        b.row(0, 1, 37);
        for (int i = 0; i < 9; i++) b.write(0, 1 + 4 * i, i);
        for (int many = 0; many <= 8; many++) {
            b.write(0, 0, many);
            due("seen(0) of " + many, b.seen(0), many);
            due("count(0)", b.count(0), many);
        }
        int[] refused = {-1, 9, -128, 127, 1000};
        for (int many : refused) {
            b.write(0, 0, many);
            due("seen(0) of " + many, b.seen(0), -4);
            due("count(0)", b.count(0), 8);
        }
    }

    /** Nothing may be SEEN: "how many (0 to 8)", of a ROW of one number. */
    static void promise05NothingSeen() {
        NeighbourBoard b = answered();
        Dues.lay(b, 0, 0, 0);
        due("seen(0)", b.seen(0), 0);
        due("count(0)", b.count(0), 0);
        due("count(5)", b.count(5), 0);
        due("told(0, 0)", b.told(0, 0), -10000);
    }

    /** -2: "there is no such SLOT" */
    static void promise05NoSuchSlot() {
        NeighbourBoard b = new NeighbourBoard();
        for (int slot = 0; slot < 8; slot++) b.row(slot, 0, 1);
        dues.each("seen", 0, b::seen, 0, 7);
        dues.each("seen", -2, b::seen, -1, 8, MIN, MAX);
    }

    /** -5: "it has nothing" */
    static void promise05NothingThere() {
        NeighbourBoard b = new NeighbourBoard();
        b.row(1, 0, 1);
        due("seen(0)", b.seen(0), -5);
        due("seen(2)", b.seen(2), -5);
        due("seen(1)", b.seen(1), 0);
    }

    /** -6: "the ROW ends ahead of one", at every number that there is to read. */
    static void promise05RowEnds() {
        long[] row = new long[33];
        row[0] = 8;
        for (int i = 0; i < 8; i++) row[1 + 4 * i] = i;
        for (int n = 0; n <= 33; n++) {
            NeighbourBoard b = new NeighbourBoard();
            b.row(0, 3, n);
            for (int i = 0; i < n; i++) b.write(0, i, row[i]);
            due("seen(0) of " + n + " numbers", b.seen(0), n < 33 ? -6 : 8);
        }
    }

    /** What stands behind is not read. */
    static void promise05RowMayGoOn() {
        NeighbourBoard b = withRow(1, 1, 2, 3, 4, 5, 9999, -9999);
        due("seen(0)", b.seen(0), 1);
        told(b, 0, 2, 3, 4, 5);
    }

    /** -4: "one is not as told": x is -20 to 20. */
    static void promise05X() {
        number(1, 20, -20, 21, -21);
        numberOfSecond(1, 20, -20, 21, -21);
    }

    /** y is -20 to 20. */
    static void promise05Y() {
        number(2, 20, -20, 21, -21);
        numberOfSecond(2, 20, -20, 21, -21);
    }

    /** A NUMBER is -1000 to 1000. */
    static void promise05Number() {
        number(3, 1000, -1000, 1001, -1001);
        numberOfSecond(3, 1000, -1000, 1001, -1001);
    }

    /** A DOUBT is 0 to 100. */
    static void promise05Doubt() {
        number(4, 100, 0, 101, -1);
        numberOfSecond(4, 100, 0, 101, -1);
    }

    private static void number(int at, int high, int low, int above, int below) {
        NeighbourBoard b = withRow(1, 1, 0, 0, 0, 0);
        numberAt(b, at, 1, high, low, above, below);
    }

    private static void numberOfSecond(int at, int high, int low, int above, int below) {
        NeighbourBoard b = withRow(2, 2, 1, 1, 0, 0, 0, 0, 0, 0);
        numberAt(b, 4 + at, 2, high, low, above, below);
    }

    private static void numberAt(NeighbourBoard b, int at, int many, int high, int low, int above, int below) {
        int[] values = {high, above, low, below};
        for (int k = 0; k < 4; k++) {
            b.write(0, at, values[k]);
            due("seen(0) with " + values[k] + " at " + at, b.seen(0), k % 2 == 0 ? many : -4);
            due("told", b.told(many - 1, (at - 1) % 4), k < 2 ? high : low);
        }
    }

    /** "as the numbers are read one by one": the first that is amiss counts. */
    static void promise05OneByOne() {
        oneByOne(-4, 9);
        oneByOne(-4, -1);
        oneByOne(-6, 1);
        oneByOne(-4, 1, 21);
        oneByOne(-6, 1, 20);
        oneByOne(-4, 1, 20, -21);
        oneByOne(-6, 1, 20, -20);
        oneByOne(-4, 1, 20, -20, 1001);
        oneByOne(-6, 1, 20, -20, 1000);
        oneByOne(-4, 1, 20, -20, 1000, 101);
        oneByOne(-6, 2, 20, -20, 1000, 100);
        oneByOne(-4, 2, 20, -20, 1000, 100, -21);
        oneByOne(-6, 3, 1, 1, 1, 1, 2, 2, 2, 2);
    }

    private static void oneByOne(int want, long... numbers) {
        due("seen(0) of " + java.util.Arrays.toString(numbers), withRow(1, numbers).seen(0), want);
    }

    /** "(at its y, if a PLACE is there twice)": neither at its x, nor behind. */
    static void promise05PlaceTwice() {
        oneByOne(-6, 2, 3, 4, 0, 0, 3);
        oneByOne(-4, 2, 3, 4, 0, 0, 3, 4);
        oneByOne(-4, 2, 3, 4, 0, 0, 3, 4, 0, 0);
        oneByOne(-4, 3, 3, 4, 0, 0, 5, 6, 0, 0, 3, 4);
        oneByOne(2, 2, 3, 4, 0, 0, 3, 5, 0, 0);
        oneByOne(2, 2, 3, 4, 0, 0, 2, 4, 0, 0);
        oneByOne(2, 2, 3, 4, 0, 0, 4, 3, 0, 0);
        oneByOne(2, 2, 3, 4, 0, 0, -3, -4, 0, 0);
        long[] eight = new long[33];
        eight[0] = 8;
        for (int i = 0; i < 8; i++) eight[1 + 4 * i] = i;
        eight[29] = 0;
        oneByOne(-4, eight);
        eight[30] = 1;
        oneByOne(8, eight);
    }

    /** "in place of what was": what was SEEN ahead is no PLACE that is there. */
    static void promise05InPlaceOfWhatWas() {
        NeighbourBoard b = new NeighbourBoard();
        for (int i = 0; i < 8; i++) b.see(i, 0, i, i);
        Dues.lay(b, 0, 1, 2, 3, 0, -5, 50, 2, 0, -6, 60);
        due("seen(0)", b.seen(0), 2);
        due("count(0)", b.count(0), 2);
        told(b, 0, 3, 0, -5, 50);
        told(b, 1, 2, 0, -6, 60);
        due("told(2, 0)", b.told(2, 0), -10000);
        due("seen(0) again", b.seen(0), 2);
        due("see(3, 0, 1, 1)", b.see(3, 0, 1, 1), -9);
        due("see(0, 0, 1, 1)", b.see(0, 0, 1, 1), 2);
    }

    /** "(no ANSWER then)" */
    static void promise05NoAnswerThen() {
        NeighbourBoard b = answered();
        due("count(5)", b.count(5), 1);
        Dues.lay(b, 0, 1, 2, 0, 0, 10, 0, 4, 0, 20, 0);
        due("count(5) ahead of seen", b.count(5), 1);
        due("seen(0) of the same", b.seen(0), 2);
        due("count(5) then", b.count(5), 0);
        due("answer(0) then", b.answer(0), false);
    }

    /** -4: "x, y .. not as told" */
    static void promise06Place() {
        NeighbourBoard b = new NeighbourBoard();
        due("see(20, 20, 0, 0)", b.see(20, 20, 0, 0), 0);
        due("see(-20, -20, 0, 0)", b.see(-20, -20, 0, 0), 1);
        due("see(20, -20, 0, 0)", b.see(20, -20, 0, 0), 2);
        due("see(-20, 20, 0, 0)", b.see(-20, 20, 0, 0), 3);
        dues.each("see at x", -4, x -> b.see(x, 0, 0, 0), 21, -21, MIN, MAX);
        dues.each("see at y", -4, y -> b.see(0, y, 0, 0), 21, -21, MIN, MAX);
        due("count(0)", b.count(0), 4);
    }

    /** -4: "NUMBER .. not as told" */
    static void promise06Number() {
        NeighbourBoard b = new NeighbourBoard();
        due("see(0, 0, 1000, 0)", b.see(0, 0, 1000, 0), 0);
        due("see(1, 0, -1000, 0)", b.see(1, 0, -1000, 0), 1);
        dues.each("see a number", -4, number -> b.see(2, 0, number, 0), 1001, -1001, MIN, MAX);
        told(b, 0, 0, 0, 1000, 0);
        told(b, 1, 1, 0, -1000, 0);
        due("count(0)", b.count(0), 2);
    }

    /** -4: "DOUBT not as told" */
    static void promise06Doubt() {
        NeighbourBoard b = new NeighbourBoard();
        due("see(0, 0, 0, 0)", b.see(0, 0, 0, 0), 0);
        due("see(1, 0, 0, 100)", b.see(1, 0, 0, 100), 1);
        dues.each("see a doubt", -4, doubt -> b.see(2, 0, 0, doubt), 101, -1, MIN, MAX);
        told(b, 0, 0, 0, 0, 0);
        told(b, 1, 1, 0, 0, 100);
        due("count(0)", b.count(0), 2);
    }

    /** -8: "there are 8" */
    static void promise06AtMost8() {
        NeighbourBoard b = new NeighbourBoard();
        for (int i = 0; i < 8; i++) due("see number " + i, b.see(i, -i, i, i), i);
        due("a ninth", b.see(8, 8, 8, 8), -8);
        due("count(0)", b.count(0), 8);
        for (int i = 0; i < 8; i++) told(b, i, i, -i, i, i);
        b.drop(3);
        due("a new eighth", b.see(8, 8, 8, 8), 7);
        due("a new ninth", b.see(9, 9, 9, 9), -8);
    }

    /** -8 of what seen() brought. */
    static void promise06AtMost8AfterSeen() {
        NeighbourBoard b = new NeighbourBoard();
        b.row(0, 0, 33);
        b.write(0, 0, 8);
        for (int i = 0; i < 8; i++) b.write(0, 1 + 4 * i, i);
        b.seen(0);
        due("a ninth", b.see(8, 8, 8, 8), -8);
        b.write(0, 0, 7);
        b.seen(0);
        due("an eighth", b.see(8, 8, 8, 8), 7);
        due("a ninth then", b.see(9, 8, 8, 8), -8);
    }

    /** -9: "its PLACE is there"; "no two the same" */
    static void promise06PlaceIsThere() {
        NeighbourBoard b = new NeighbourBoard();
        b.see(3, 4, 5, 6);
        b.see(-3, 4, 5, 6);
        due("see(3, 4, 7, 8)", b.see(3, 4, 7, 8), -9);
        due("see(-3, 4, 5, 6)", b.see(-3, 4, 5, 6), -9);
        due("see(4, 3, 5, 6)", b.see(4, 3, 5, 6), 2);
        due("see(3, -4, 5, 6)", b.see(3, -4, 5, 6), 3);
        due("see(3, 5, 5, 6)", b.see(3, 5, 5, 6), 4);
        due("see(3, 5, 0, 0)", b.see(3, 5, 0, 0), -9);
        told(b, 0, 3, 4, 5, 6);
        b.drop(0);
        due("see(3, 4, 7, 8) when it is gone", b.see(3, 4, 7, 8), 4);
    }

    /** "(no ANSWER then)" */
    static void promise06NoAnswerThen() {
        NeighbourBoard b = answered();
        due("count(5)", b.count(5), 1);
        due("see(9, 9, 9, 9)", b.see(9, 9, 9, 9), 2);
        due("count(5) then", b.count(5), 0);
        due("answer(0) then", b.answer(0), false);
    }

    /** -2: "there is none such" */
    static void promise07NoneSuch() {
        NeighbourBoard b = new NeighbourBoard();
        dues.each("drop of none", -2, b::drop, -1, 0, 1, 7, 8, MIN, MAX);
        for (int i = 0; i < 8; i++) b.see(i, 0, 0, 0);
        dues.each("drop", -2, b::drop, -1, 8, MIN, MAX);
        due("drop(7)", b.drop(7), 7);
        due("drop(7) then", b.drop(7), -2);
        due("drop(0)", b.drop(0), 6);
        due("drop(6)", b.drop(6), -2);
        due("drop(5)", b.drop(5), 5);
    }

    /** "how many are left", down to none. */
    static void promise07HowManyAreLeft() {
        NeighbourBoard b = new NeighbourBoard();
        for (int i = 0; i < 8; i++) b.see(i, 0, 0, 0);
        for (int left = 7; left >= 0; left--) due("drop(0)", b.drop(0), left);
        due("drop(0) of none", b.drop(0), -2);
        due("count(0)", b.count(0), 0);
        due("see(0, 0, 0, 0)", b.see(0, 0, 0, 0), 0);
    }

    /** "those behind it move up": of the first, one between, the last. */
    static void promise07ThoseBehindMoveUp() {
        int[] dropped = {0, 3, 7};
        for (int d : dropped) {
            NeighbourBoard b = new NeighbourBoard();
            for (int i = 0; i < 8; i++) b.see(i, i - 8, 100 * i, 10 * i);
            due("drop(" + d + ")", b.drop(d), 7);
            for (int i = 0; i < 7; i++) {
                int was = i < d ? i : i + 1;
                told(b, i, was, was - 8, 100 * was, 10 * was);
            }
            due("told(7, 0)", b.told(7, 0), -10000);
        }
    }

    /** "(no ANSWER then)" */
    static void promise07NoAnswerThen() {
        NeighbourBoard b = answered();
        due("count(5)", b.count(5), 1);
        due("drop(1)", b.drop(1), 1);
        due("count(5) then", b.count(5), 0);
        due("answer(0) then", b.answer(0), false);
    }
}
