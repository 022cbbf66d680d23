/**
 * The edges of the promises 8 to 14 (the LAWS, USED and NEAREST), a test for each sentence that names
 * one: the last value that is taken and the first that is refused, on both sides.
 */
public final class LawEdgesTest {
    private static final int MIN = Integer.MIN_VALUE;
    private static final int MAX = Integer.MAX_VALUE;
    private static final Dues dues = new Dues();

    public static void main(String[] args) throws ReflectiveOperationException {
        dues.runAll(LawEdgesTest.class);
        dues.end();
    }

    private static void due(String call, long got, long want) {
        dues.due(call, got, want);
    }

    private static void due(String call, boolean got, boolean want) {
        dues.due(call, got, want);
    }

    private static int table(NeighbourBoard b, long... numbers) {
        Dues.lay(b, 0, 2, numbers);
        return b.table(0);
    }

    /** Numbers 10 at (0, 0) and 20 at (4, 0), straight(1) USED, an ANSWER for (1, 0). */
    private static NeighbourBoard answered() {
        NeighbourBoard b = new NeighbourBoard();
        b.see(0, 0, 10, 0);
        b.see(4, 0, 20, 0);
        b.straight(1);
        b.use(0);
        b.ask(1, 0);
        return b;
    }

    /** Laws of every kind, each told more than 0 for WAY 1. */
    private static NeighbourBoard ofEveryKind() {
        NeighbourBoard b = new NeighbourBoard();
        b.straight(100);
        b.capped(100, 1);
        table(b, 2, 8000, 7000);
        b.sum(0, 2);
        return b;
    }

    /** "(0 for WAY 0)", whatever the kind. */
    static void terms0ForWay0() {
        NeighbourBoard b = ofEveryKind();
        int[] first = {100, 1, 8000, 8100};
        for (int l = 0; l < 4; l++) {
            due("unlike(" + l + ", 0)", b.unlike(l, 0), 0);
            due("unlike(" + l + ", 1)", b.unlike(l, 1), first[l]);
        }
    }

    /** "LAWS, at most 6, numbered from 0 on": six of one kind, and a seventh of each kind. */
    static void termsAtMost6Laws() {
        for (int kind = 0; kind < 4; kind++) {
            NeighbourBoard b = new NeighbourBoard();
            if (kind == 3) due("the first", b.straight(1), 0);
            for (int l = kind == 3 ? 1 : 0; l < 6; l++) due("law " + l + " of kind " + kind, add(b, kind), l);
            due("count(1)", b.count(1), 6);
            for (int other = 0; other < 4; other++) due("a seventh of kind " + other, add(b, other), -8);
            due("count(1) then", b.count(1), 6);
            due("unlike(5, 1)", b.unlike(5, 1) > 0, true);
            due("unlike(6, 1)", b.unlike(6, 1), -1);
        }
    }

    private static int add(NeighbourBoard b, int kind) {
        switch (kind) {
            case 0: return b.straight(1);
            case 1: return b.capped(1, 1);
            case 2: return table(b, 1, 1);
            default: return b.sum(0, 0);
        }
    }

    /** -4: "a is not 1 to 100" */
    static void promise08Slope() {
        NeighbourBoard b = new NeighbourBoard();
        due("straight(1)", b.straight(1), 0);
        due("straight(100)", b.straight(100), 1);
        dues.each("straight", -4, b::straight, 0, 101, -1, MIN, MAX);
        due("count(1)", b.count(1), 2);
    }

    /** "a times the WAY", to the farthest. */
    static void promise08FarthestWay() {
        NeighbourBoard b = new NeighbourBoard();
        b.straight(1);
        b.straight(100);
        for (int way = 0; way <= 80; way++) {
            due("unlike(0, " + way + ")", b.unlike(0, way), way);
            due("unlike(1, " + way + ")", b.unlike(1, way), 100 * way);
        }
    }

    /** -8: "there are 6" */
    static void promise08Full() {
        NeighbourBoard b = new NeighbourBoard();
        for (int l = 0; l < 6; l++) due("straight(" + (l + 1) + ")", b.straight(l + 1), l);
        due("straight(7)", b.straight(7), -8);
        due("straight(100)", b.straight(100), -8);
        for (int l = 0; l < 6; l++) due("unlike(" + l + ", 80)", b.unlike(l, 80), 80 * (l + 1));
    }

    /** -4: "a is not 1 to 100" */
    static void promise09Slope() {
        NeighbourBoard b = new NeighbourBoard();
        due("capped(1, 50)", b.capped(1, 50), 0);
        due("capped(100, 50)", b.capped(100, 50), 1);
        dues.each("capped", -4, a -> b.capped(a, 50), 0, 101, -1, MIN, MAX);
        due("count(1)", b.count(1), 2);
    }

    /** -4: "b not 1 to 8000" */
    static void promise09Cap() {
        NeighbourBoard b = new NeighbourBoard();
        due("capped(50, 1)", b.capped(50, 1), 0);
        due("capped(50, 8000)", b.capped(50, 8000), 1);
        dues.each("capped", -4, cap -> b.capped(50, cap), 0, 8001, -1, MIN, MAX);
        due("count(1)", b.count(1), 2);
    }

    /** "b where that is above b": just below, just at, just above. */
    static void promise09WhereAboveB() {
        NeighbourBoard b = new NeighbourBoard();
        b.capped(7, 20);
        b.capped(7, 21);
        b.capped(7, 22);
        int[][] told = {{14, 20, 20}, {14, 21, 21}, {14, 21, 22}};
        for (int l = 0; l < 3; l++) {
            for (int way = 2; way <= 4; way++) due("unlike(" + l + ", " + way + ")", b.unlike(l, way), told[l][way - 2]);
        }
        b.capped(100, 7999);
        due("unlike(3, 79)", b.unlike(3, 79), 7900);
        due("unlike(3, 80)", b.unlike(3, 80), 7999);
        b.capped(100, 8000);
        due("unlike(4, 80)", b.unlike(4, 80), 8000);
        b.capped(100, 1);
        due("unlike(5, 1)", b.unlike(5, 1), 1);
    }

    /** "-8" */
    static void promise09Full() {
        NeighbourBoard b = new NeighbourBoard();
        for (int l = 0; l < 6; l++) due("capped(1, " + (l + 1) + ")", b.capped(1, l + 1), l);
        due("capped(1, 7)", b.capped(1, 7), -8);
        for (int l = 0; l < 6; l++) due("unlike(" + l + ", 80)", b.unlike(l, 80), l + 1);
    }

    /** -2: "there is no such SLOT" */
    static void promise10NoSuchSlot() {
        NeighbourBoard b = new NeighbourBoard();
        for (int slot = 0; slot < 8; slot++) Dues.lay(b, slot, 0, 1, slot);
        due("table(0)", b.table(0), 0);
        due("table(7)", b.table(7), 1);
        due("unlike(1, 1)", b.unlike(1, 1), 7);
        dues.each("table", -2, b::table, -1, 8, MIN, MAX);
        due("count(1)", b.count(1), 2);
    }

    /** "-8" */
    static void promise10Full() {
        NeighbourBoard b = new NeighbourBoard();
        for (int l = 0; l < 6; l++) due("table of " + l, table(b, 1, l), l);
        due("a seventh", table(b, 1, 6), -8);
        for (int l = 0; l < 6; l++) due("unlike(" + l + ", 80)", b.unlike(l, 80), l);
    }

    /** "-5" */
    static void promise10NothingThere() {
        NeighbourBoard b = new NeighbourBoard();
        Dues.lay(b, 1, 0, 1, 1);
        due("table(0)", b.table(0), -5);
        due("table(2)", b.table(2), -5);
        due("table(1)", b.table(1), 0);
        b.tear(1);
        due("table(1) when it is torn", b.table(1), -5);
    }

    /** "how many (1 to 40)" */
    static void promise10HowMany1To40() {
        NeighbourBoard b = new NeighbourBoard();
        b.row(0, 1, 60);
        for (int i = 1; i < 60; i++) b.write(0, i, 100 + i);
        int[] refused = {0, 41, -1, 60, 1000};
        for (int many : refused) {
            b.write(0, 0, many);
            due("table of " + many, b.table(0), -4);
        }
        int[] taken = {1, 2, 39, 40};
        for (int l = 0; l < 4; l++) {
            b.write(0, 0, taken[l]);
            due("table of " + taken[l], b.table(0), l);
        }
    }

    /** "the last one for all beyond": of one, of forty. */
    static void promise10LastForAllBeyond() {
        NeighbourBoard b = new NeighbourBoard();
        b.row(0, 1, 60);
        for (int i = 1; i < 60; i++) b.write(0, i, 100 + i);
        int[] taken = {1, 2, 39, 40};
        for (int l = 0; l < 4; l++) {
            b.write(0, 0, taken[l]);
            b.table(0);
            for (int way = 1; way <= 80; way++) {
                due("unlike(" + l + ", " + way + ")", b.unlike(l, way), 100 + Math.min(way, taken[l]));
            }
        }
    }

    /** "(0 to 8000)", the first one and the last one. */
    static void promise10Numbers0To8000() {
        NeighbourBoard b = new NeighbourBoard();
        due("of 0, 8000", table(b, 2, 0, 8000), 0);
        due("of 8000, 0", table(b, 2, 8000, 0), 1);
        due("of -1, 0", table(b, 2, -1, 0), -4);
        due("of 0, -1", table(b, 2, 0, -1), -4);
        due("of 8001, 0", table(b, 2, 8001, 0), -4);
        due("of 0, 8001", table(b, 2, 0, 8001), -4);
        due("count(1)", b.count(1), 2);
        due("unlike(0, 1)", b.unlike(0, 1), 0);
        due("unlike(0, 2)", b.unlike(0, 2), 8000);
        due("unlike(1, 1)", b.unlike(1, 1), 8000);
        due("unlike(1, 80)", b.unlike(1, 80), 0);
    }

    /** -6 "as of seen()": the ROW ends ahead of one, at every number that there is to read. */
    static void promise10RowEnds() {
        for (int n = 0; n <= 42; n++) {
            NeighbourBoard b = new NeighbourBoard();
            b.row(0, 0, n);
            b.write(0, 0, 40);
            due("table of " + n + " numbers", b.table(0), n < 41 ? -6 : 0);
            due("count(1)", b.count(1), n < 41 ? 0 : 1);
        }
    }

    /** "then -6, -4 as of seen()": one by one, the first that is amiss counts. */
    static void promise10OneByOne() {
        NeighbourBoard b = new NeighbourBoard();
        due("how many is amiss, and the end", table(b, 41), -4);
        due("how many is 0, and the end", table(b, 0), -4);
        due("the end", table(b, 2), -6);
        due("one is amiss, then the end", table(b, 2, 8001), -4);
        due("the end, one ahead of it", table(b, 2, 8000), -6);
        due("what stands behind is not read", table(b, 1, 8000, 8001, -1), 0);
    }

    /** -2: "there is none such", for each of the two. */
    static void promise11NoneSuch() {
        NeighbourBoard b = new NeighbourBoard();
        due("sum(0, 0) of none", b.sum(0, 0), -2);
        b.straight(1);
        b.straight(2);
        dues.each("sum with a", -2, a -> b.sum(a, 0), -1, 2, 6, MIN, MAX);
        dues.each("sum with b", -2, l -> b.sum(0, l), -1, 2, 6, MIN, MAX);
        due("sum(0, 1)", b.sum(0, 1), 2);
        due("sum(2, 0)", b.sum(2, 0), 3);
        due("sum(4, 0)", b.sum(4, 0), -2);
    }

    /** "(the same one twice, too)" */
    static void promise11SameTwice() {
        NeighbourBoard b = ofEveryKind();
        due("sum(1, 1)", b.sum(1, 1), 4);
        due("sum(2, 2)", b.sum(2, 2), 5);
        for (int way = 0; way <= 80; way++) {
            due("unlike(4, " + way + ")", b.unlike(4, way), 2 * b.unlike(1, way));
            due("unlike(5, " + way + ")", b.unlike(5, way), 2 * b.unlike(2, way));
        }
    }

    /** "-8" */
    static void promise11Full() {
        NeighbourBoard b = new NeighbourBoard();
        b.straight(1);
        for (int l = 1; l < 6; l++) due("sum(0, " + (l - 1) + ")", b.sum(0, l - 1), l);
        due("sum(0, 0)", b.sum(0, 0), -8);
        due("sum(5, 5)", b.sum(5, 5), -8);
        for (int l = 0; l < 6; l++) due("unlike(" + l + ", 10)", b.unlike(l, 10), 10 * (l + 1));
    }

    /** -4: "more than 16000 together for some WAY": at the farthest WAY alone. */
    static void promise11TooMuchAtWay80() {
        NeighbourBoard b = new NeighbourBoard();
        b.straight(100);
        due("sum(0, 0) tells 16000", b.sum(0, 0), 1);
        due("unlike(1, 80)", b.unlike(1, 80), 16000);
        b.straight(1);
        due("sum(1, 2) tells 16080", b.sum(1, 2), -4);
        due("sum(2, 1) tells 16080", b.sum(2, 1), -4);
        b.capped(100, 7999);
        due("sum(0, 3) tells 15999", b.sum(0, 3), 4);
        due("unlike(4, 80)", b.unlike(4, 80), 15999);
        due("sum(4, 4)", b.sum(4, 4), -4);
        b.capped(1, 1);
        due("count(1)", b.count(1), 6);
        due("sum(4, 5) of six", b.sum(4, 5), -8);
    }

    /** At WAY 1 alone; one more than 16000. */
    static void promise11TooMuchAtWay1() {
        NeighbourBoard b = new NeighbourBoard();
        table(b, 2, 8000, 0);
        due("sum(0, 0) tells 16000", b.sum(0, 0), 1);
        due("unlike(1, 1)", b.unlike(1, 1), 16000);
        due("unlike(1, 2)", b.unlike(1, 2), 0);
        table(b, 2, 1, 0);
        due("sum(1, 2) tells 16001", b.sum(1, 2), -4);
        table(b, 2, 0, 8000);
        due("sum(1, 3) tells 16000", b.sum(1, 3), 4);
        due("unlike(4, 1)", b.unlike(4, 1), 16000);
        due("unlike(4, 80)", b.unlike(4, 80), 8000);
        due("count(1)", b.count(1), 5);
    }

    /** At a WAY between. */
    static void promise11TooMuchBetween() {
        NeighbourBoard b = new NeighbourBoard();
        table(b, 4, 0, 0, 8000, 0);
        b.sum(0, 0);
        table(b, 4, 9, 9, 1, 9);
        due("sum(1, 2) tells 16001 for WAY 3", b.sum(1, 2), -4);
        table(b, 4, 9, 9, 0, 9);
        due("sum(1, 3) tells 16000", b.sum(1, 3), 4);
        due("unlike(4, 3)", b.unlike(4, 3), 16000);
        due("unlike(4, 4)", b.unlike(4, 4), 9);
    }

    /** A LAW stays as it was made, whatever comes of the ROW. */
    static void promise10LawStays() {
        NeighbourBoard b = new NeighbourBoard();
        table(b, 2, 3, 4);
        b.sum(0, 0);
        b.write(0, 1, 9);
        due("unlike(0, 1) after write", b.unlike(0, 1), 3);
        b.row(0, 0, 1);
        due("unlike(0, 2) after row", b.unlike(0, 2), 4);
        b.tear(0);
        due("unlike(1, 2) after tear", b.unlike(1, 2), 8);
    }

    /** NONE: "there is none such" */
    static void promise12NoneSuch() {
        NeighbourBoard b = ofEveryKind();
        dues.each("unlike of law", -1, l -> b.unlike(l, 1), -1, 4, 5, 6, MIN, MAX);
        dues.each("unlike of law, WAY 0", -1, l -> b.unlike(l, 0), -1, 4, MIN, MAX);
        due("unlike(0, 1)", b.unlike(0, 1), 100);
        due("unlike(3, 1)", b.unlike(3, 1), 8100);
    }

    /** NONE: "the WAY is not 0 to 80" */
    static void promise12Way0To80() {
        NeighbourBoard b = ofEveryKind();
        int[] last = {8000, 1, 7000, 15000};
        for (int l = 0; l < 4; l++) {
            int law = l;
            dues.each("unlike of WAY", -1, way -> b.unlike(law, way), -1, 81, MIN, MAX);
            due("unlike(" + l + ", 80)", b.unlike(l, 80), last[l]);
            due("unlike(" + l + ", 0)", b.unlike(l, 0), 0);
        }
    }

    /** "false if there is none such" */
    static void promise13NoneSuch() {
        NeighbourBoard b = new NeighbourBoard();
        dues.each("use of none", false, b::use, 0, 1, -2, MIN, MAX);
        b.straight(1);
        b.straight(2);
        due("use(1)", b.use(1), true);
        dues.each("use", false, b::use, 2, -2, 6, MIN, MAX);
        due("count(2)", b.count(2), 1);
        due("use(0)", b.use(0), true);
        due("count(2) then", b.count(2), 0);
        for (int l = 2; l < 6; l++) b.straight(1);
        due("use(5)", b.use(5), true);
        due("use(6)", b.use(6), false);
        due("count(2) at last", b.count(2), 5);
    }

    /** "or none (l NONE): true", also with no LAWS there. */
    static void promise13None() {
        NeighbourBoard b = new NeighbourBoard();
        due("use(NONE) of a new one", b.use(NeighbourBoard.NONE), true);
        b.straight(1);
        b.use(0);
        due("use(NONE)", b.use(NeighbourBoard.NONE), true);
        due("count(2)", b.count(2), -1);
        due("use(NONE) again", b.use(NeighbourBoard.NONE), true);
    }

    /** "(no ANSWER then)": of another one, of the same one, of none. */
    static void promise13NoAnswerThen() {
        int[] laws = {0, 1, -1};
        for (int l : laws) {
            NeighbourBoard b = answered();
            b.straight(2);
            due("count(5)", b.count(5), 1);
            due("use(" + l + ")", b.use(l), true);
            due("count(5) then", b.count(5), 0);
            due("answer(0) then", b.answer(0), false);
        }
    }

    /** "false if k is not 1 to 8" */
    static void promise14Nearest1To8() {
        NeighbourBoard b = new NeighbourBoard();
        for (int k = 1; k <= 8; k++) {
            due("nearest(" + k + ")", b.nearest(k), true);
            due("count(3)", b.count(3), k);
        }
        dues.each("nearest", false, b::nearest, 0, 9, -1, MIN, MAX);
        due("count(3)", b.count(3), 8);
        due("nearest(1)", b.nearest(1), true);
        due("count(3) then", b.count(3), 1);
    }

    /** "(the ANSWER stays)" */
    static void promise14AnswerStays() {
        NeighbourBoard b = answered();
        due("nearest(1)", b.nearest(1), true);
        due("count(5)", b.count(5), 1);
        dues.answer("by both", b, 0, 25, 2);
        dues.answer("by both", b, 11, 1, 4);
    }

    /** By a cap of 1 all that are USED count alike: each NEAREST of eight, nearest first. */
    static void termsNearestOfEight() {
        NeighbourBoard b = new NeighbourBoard();
        b.use(b.capped(1, 1));
        for (int i = 0; i < 8; i++) b.see(20 - 2 * i, 0, 0, 0);
        for (int k = 1; k <= 8; k++) {
            b.nearest(k);
            due("ask(0, 5)", b.ask(0, 5), 0);
            for (int i = 0; i < 8; i++) {
                b.answer(10 + i);
                due("weight " + i + " of the nearest " + k, b.part(true, 0), i >= 8 - k ? k : 1);
                due("weight " + i + " of the nearest " + k, b.part(false, 0), i >= 8 - k ? 1 : 0);
            }
        }
    }

    /** "of alike ones the lower numbers first" */
    static void termsAlikeOnesTheLowerNumbers() {
        NeighbourBoard b = new NeighbourBoard();
        b.use(b.capped(1, 1));
        b.see(0, 3, 1, 0);
        b.see(0, -2, 2, 0);
        b.see(2, 0, 3, 0);
        b.see(-1, 1, 4, 0);
        b.see(-1, -1, 5, 0);
        b.nearest(1);
        b.ask(0, 0);
        dues.answer("of four alike one", b, 0, 2, 1);
        b.nearest(2);
        b.ask(0, 0);
        dues.answer("of four alike two", b, 0, 5, 2);
        b.nearest(3);
        b.ask(0, 0);
        dues.answer("of four alike three", b, 0, 3, 1);
        b.nearest(4);
        b.ask(0, 0);
        dues.answer("all four alike", b, 0, 7, 2);
    }

    /** "with NEAREST or fewer there all" */
    static void termsNearestOrFewerAll() {
        for (int many = 1; many <= 4; many++) {
            NeighbourBoard b = new NeighbourBoard();
            b.use(b.capped(1, 1));
            for (int i = 0; i < many; i++) b.see(5 * i, 0, 0, 0);
            b.nearest(3);
            b.ask(0, 1);
            b.answer(10);
            due("the first of " + many, b.part(true, 0), Math.min(many, 3));
            b.answer(10 + many - 1);
            due("the last of " + many, b.part(false, 0), many <= 3 ? 1 : 0);
        }
    }

    /** "those of the least sum of WAYS to them", not of the least WAY to one; each time one comes counts. */
    static void termsLeastSumOfWays() {
        NeighbourBoard b = new NeighbourBoard();
        b.use(b.capped(1, 1));
        b.see(0, 0, 0, 0);
        b.see(3, 3, 0, 0);
        b.see(6, 0, 0, 0);
        b.nearest(1);
        Dues.lay(b, 0, 0, 2, 0, 1, 5, 5);
        b.mean(0);
        dues.answer("sums 11, 9, 11", b, 11, 1, 1);
        Dues.lay(b, 0, 0, 3, 0, 1, 0, 1, 5, 5);
        b.mean(0);
        dues.answer("sums 12, 14, 18", b, 10, 1, 1);
        Dues.lay(b, 0, 0, 2, 0, 0, 6, 0);
        b.mean(0);
        dues.answer("sums 6, 12, 6", b, 10, 1, 1);
        dues.answer("sums 6, 12, 6", b, 12, 0, 1);
    }
}
