import java.util.ArrayDeque;
import java.util.Deque;
import java.util.Random;

/** Long runs of chosen-by-seed calls, on the class and on BoardModel side by side. */
public final class AgainstModelTest {
    private static final int RUNS = 500;
    private static final int CALLS = 512;
    private static final int[] ODD = {Integer.MIN_VALUE, -1001, -21, -2, -1, 0, 1, 6, 7, 8, 9, 41, 61, 81, 101,
        1001, 8001, Integer.MAX_VALUE};

    private final Random random;
    private final NeighbourBoard board = new NeighbourBoard();
    private final BoardModel model = new BoardModel();
    private final Deque<String> calls = new ArrayDeque<>();
    private final int near;
    private int wrong = 0;

    private AgainstModelTest(long seed) {
        random = new Random(seed);
        near = new int[] {2, 5, 20}[random.nextInt(3)];
    }

    public static void main(String[] args) {
        int wrong = 0;
        for (int run = 0; run < RUNS && wrong == 0; run++) {
            AgainstModelTest test = new AgainstModelTest(run);
            for (int call = 0; call < CALLS && test.wrong == 0; ) call += test.step();
            if (test.wrong > 0) System.out.println("run " + run + ", the last calls: " + test.calls);
            wrong += test.wrong;
        }
        System.out.println(wrong == 0 ? "the class and the model agree" : "they do not agree");
        if (wrong != 0) System.exit(1);
    }

    private void due(String call, int got, int want) {
        calls.add(call + " = " + got);
        if (calls.size() > 60) calls.remove();
        if (got != want) {
            wrong++;
            System.out.println(call + " answered " + got + ", due is " + want);
        }
    }

    private void due(String call, boolean got, boolean want) {
        due(call, got ? 1 : 0, want ? 1 : 0);
    }

    private int between(int low, int high) {
        return low + random.nextInt(high - low + 1);
    }

    /** Mostly within the bounds, else just beyond them or far off. */
    private int around(int low, int high) {
        int kind = random.nextInt(40);
        if (kind == 0) return low - 1;
        if (kind == 1) return high + 1;
        if (kind == 2) return low;
        if (kind == 3) return high;
        if (kind == 4) return ODD[random.nextInt(ODD.length)];
        return between(low, high);
    }

    private int coordinate() {
        return random.nextInt(60) == 0 ? around(-20, 20) : between(-near, near);
    }

    private int doubt() {
        return random.nextInt(3) > 0 ? 0 : around(0, 100);
    }

    private int step() {
        switch (random.nextInt(30)) {
            case 0: case 1: case 2: return lookAtSlots();
            case 3: return writeSeen();
            case 4: case 5: case 6: case 7: return see();
            case 8: return drop();
            case 9: case 10: return addLaw();
            case 11: return writeTable();
            case 12: case 13: case 14: return use();
            case 15: case 16: case 17: return ask();
            case 18: case 19: return writeMean();
            case 20: case 21: case 22: return answer();
            case 23: case 24: return leftOut();
            case 25: return worstAndBest();
            case 26: return allowed();
            case 27: return band();
            default: return lookAround();
        }
    }

    private int lookAtSlots() {
        int slot = around(0, 7);
        int kind = random.nextInt(6);
        if (kind == 0) {
            int width = around(0, 3);
            int n = around(0, 60);
            due("row(" + slot + ", " + width + ", " + n + ")", board.row(slot, width, n), model.row(slot, width, n));
        } else if (kind == 1) {
            due("tear(" + slot + ")", board.tear(slot), model.tear(slot));
        } else if (kind == 2) {
            int i = around(0, 12);
            long v = random.nextInt(3) == 0 ? random.nextLong() : around(-20, 20);
            due("write(" + slot + ", " + i + ", " + v + ")", board.write(slot, i, v), model.write(slot, i, v));
        } else if (kind == 3) {
            due("seen(" + slot + ")", board.seen(slot), model.seen(slot));
        } else if (kind == 4) {
            due("table(" + slot + ")", board.table(slot), model.table(slot));
        } else {
            due("mean(" + slot + ")", board.mean(slot), model.mean(slot));
        }
        return 1;
    }

    /** A row of these numbers, now and then one too short or with one number spoilt. */
    private int lay(int slot, int width, int[] numbers) {
        int n = random.nextInt(8) == 0 ? random.nextInt(numbers.length + 1) : numbers.length;
        due("row(" + slot + ", " + width + ", " + n + ")", board.row(slot, width, n), model.row(slot, width, n));
        int spoilt = random.nextInt(6) == 0 ? random.nextInt(numbers.length) : -1;
        for (int i = 0; i < n; i++) {
            long v = i == spoilt ? around(-20, 20) : numbers[i];
            due("write(" + slot + ", " + i + ", " + v + ")", board.write(slot, i, v), model.write(slot, i, v));
        }
        return n + 1;
    }

    private int writeSeen() {
        int slot = random.nextInt(8);
        int many = random.nextInt(9);
        int[] numbers = new int[1 + 4 * many + random.nextInt(3)];
        numbers[0] = many;
        for (int i = 0; i < many; i++) {
            numbers[1 + 4 * i] = coordinate();
            numbers[2 + 4 * i] = coordinate();
            numbers[3 + 4 * i] = around(-1000, 1000);
            numbers[4 + 4 * i] = doubt();
        }
        int made = lay(slot, between(0, 3), numbers);
        due("seen(" + slot + ")", board.seen(slot), model.seen(slot));
        return made + 1;
    }

    private int see() {
        int x = coordinate();
        int y = coordinate();
        int number = around(-1000, 1000);
        int doubt = doubt();
        due("see(" + x + ", " + y + ", " + number + ", " + doubt + ")",
            board.see(x, y, number, doubt), model.see(x, y, number, doubt));
        return 1;
    }

    private int drop() {
        int i = around(0, 7);
        due("drop(" + i + ")", board.drop(i), model.drop(i));
        return 1;
    }

    private int addLaw() {
        int a = around(1, 100);
        int b = random.nextBoolean() ? around(1, 8000) : around(1, 400);
        int l = around(0, Math.max(0, model.count(1) - 1));
        int m = around(0, Math.max(0, model.count(1) - 1));
        switch (random.nextInt(4)) {
            case 0: due("straight(" + a + ")", board.straight(a), model.straight(a)); break;
            case 1: due("capped(" + a + ", " + b + ")", board.capped(a, b), model.capped(a, b)); break;
            default: due("sum(" + l + ", " + m + ")", board.sum(l, m), model.sum(l, m)); break;
        }
        return 1;
    }

    private int writeTable() {
        int slot = random.nextInt(8);
        int many = random.nextInt(4) == 0 ? between(1, 40) : between(1, 5);
        int highest = new int[] {1, 3, 30, 8000}[random.nextInt(4)];
        boolean square = random.nextInt(4) == 0;
        int[] numbers = new int[1 + many];
        numbers[0] = many;
        for (int i = 1; i <= many; i++) numbers[i] = square ? Math.min(8000, i * i) : between(0, highest);
        int made = lay(slot, random.nextInt(6) == 0 ? 0 : between(1, 3), numbers);
        due("table(" + slot + ")", board.table(slot), model.table(slot));
        return made + 1;
    }

    private int use() {
        int l = around(0, Math.max(0, model.count(1) - 1));
        int k = around(1, 8);
        if (random.nextInt(3) > 0) due("use(" + l + ")", board.use(l), model.use(l));
        else due("nearest(" + k + ")", board.nearest(k), model.nearest(k));
        return 1;
    }

    private int ask() {
        int x = coordinate();
        int y = coordinate();
        due("ask(" + x + ", " + y + ")", board.ask(x, y), model.ask(x, y));
        return 1 + readAnswer();
    }

    private int writeMean() {
        int slot = random.nextInt(8);
        int many = between(1, 6);
        int[] numbers = new int[1 + 2 * many + random.nextInt(3)];
        numbers[0] = many;
        for (int i = 1; i <= 2 * many; i++) numbers[i] = coordinate();
        int made = lay(slot, between(0, 3), numbers);
        due("mean(" + slot + ")", board.mean(slot), model.mean(slot));
        return made + 1 + readAnswer();
    }

    private int readAnswer() {
        return random.nextBoolean() ? answer() : 0;
    }

    private int answer() {
        int what = random.nextBoolean() ? around(0, 2) : around(10, 17);
        due("answer(" + what + ")", board.answer(what), model.answer(what));
        return 1 + readResult();
    }

    private int leftOut() {
        int i = around(0, Math.max(0, model.count(0) - 1));
        due("leftOut(" + i + ")", board.leftOut(i), model.leftOut(i));
        return 1 + readResult();
    }

    private int worstAndBest() {
        due("worst()", board.worst(), model.worst());
        due("best()", board.best(), model.best());
        return 2 + readResult();
    }

    private int allowed() {
        for (int l = -1; l <= 6; l++) due("allowed(" + l + ")", board.allowed(l), model.allowed(l));
        return 8;
    }

    private int band() {
        int from = around(0, 20);
        int to = around(from < 0 ? 0 : Math.min(from, 20), 80);
        due("pairs(" + from + ", " + to + ")", board.pairs(from, to), model.pairs(from, to));
        due("band(" + from + ", " + to + ")", board.band(from, to), model.band(from, to));
        return 2 + readResult();
    }

    private int readResult() {
        for (int what = 0; what < 3; what++) due("look(" + what + ")", board.look(what), model.look(what));
        for (int i = 0; i <= 5; i++) {
            due("part(false, " + i + ")", board.part(false, i), model.part(false, i));
            due("part(true, " + i + ")", board.part(true, i), model.part(true, i));
        }
        return 15;
    }

    private int lookAround() {
        int what = around(0, 5);
        int i = around(0, 7);
        int l = around(0, 5);
        int way = around(0, 80);
        due("count(" + what + ")", board.count(what), model.count(what));
        due("told(" + i + ", " + what + ")", board.told(i, what), model.told(i, what));
        due("unlike(" + l + ", " + way + ")", board.unlike(l, way), model.unlike(l, way));
        due("look(" + what + ")", board.look(what), model.look(what));
        due("part(true, " + i + ")", board.part(true, i), model.part(true, i));
        return 5;
    }
}
