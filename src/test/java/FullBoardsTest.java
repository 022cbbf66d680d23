import java.util.Random;

/**
 * Boards with many places and wild laws, by which the fractions grow as long as they can, on the class
 * and on BoardModel side by side: all of each ANSWER, each one LEFT OUT, WORST, BEST, ALLOWED.
 */
public final class FullBoardsTest {
    private static final int BOARDS = 150;

    private final Random random;
    private final Dues dues;
    private final NeighbourBoard board = new NeighbourBoard();
    private final BoardModel model = new BoardModel();
    private final String name;
    private int longest = 0;

    private FullBoardsTest(int seed, Dues dues) {
        random = new Random(seed);
        this.dues = dues;
        name = "board " + seed + ": ";
    }

    public static void main(String[] args) {
        Dues dues = new Dues();
        int longest = 0;
        for (int seed = 0; seed < BOARDS; seed++) {
            FullBoardsTest test = new FullBoardsTest(seed, dues);
            test.place();
            test.legislate();
            test.ask();
            test.leaveOut();
            longest = Math.max(longest, test.longest);
        }
        dues.due("the longest top has four parts", longest, 4);
        dues.end();
    }

    private int between(int low, int high) {
        return low + random.nextInt(high - low + 1);
    }

    private void place() {
        int many = random.nextInt(3) == 0 ? between(2, 7) : 8;
        int near = new int[] {2, 4, 20}[random.nextInt(3)];
        int highest = random.nextInt(3) == 0 ? 0 : between(0, 100);
        while (model.count(0) < many) {
            int x = between(-near, near);
            int y = between(-near, near);
            int number = random.nextInt(4) == 0 ? 1000 * between(-1, 1) : between(-1000, 1000);
            int doubt = between(0, highest);
            dues.due(name + "see", board.see(x, y, number, doubt), model.see(x, y, number, doubt));
        }
    }

    private void legislate() {
        for (int slot = 0; slot < 3; slot++) {
            int many = between(1, 40);
            int lowest = random.nextBoolean() ? 7000 : 0;
            write(slot, 0, many, many + 1);
            for (int way = 1; way <= many; way++) write(slot, way, between(lowest, 8000), 0);
            dues.due(name + "table", board.table(slot), model.table(slot));
        }
        int cap = between(1, 8000);
        int slope = between(1, 100);
        dues.due(name + "capped", board.capped(slope, cap), model.capped(slope, cap));
        for (int i = 0; i < 2; i++) {
            int a = between(0, 3);
            int b = between(0, 3);
            dues.due(name + "sum", board.sum(a, b), model.sum(a, b));
        }
    }

    private void write(int slot, int i, int number, int rowOf) {
        if (rowOf > 0) dues.due(name + "row", board.row(slot, 1, rowOf), model.row(slot, 1, rowOf));
        dues.due(name + "write", board.write(slot, i, number), model.write(slot, i, number));
    }

    private void ask() {
        int law = between(0, 5);
        dues.due(name + "use", board.use(law), model.use(law));
        int nearest = random.nextInt(3) == 0 ? between(1, 8) : 8;
        dues.due(name + "nearest", board.nearest(nearest), model.nearest(nearest));
        int x = between(-20, 20);
        int y = between(-20, 20);
        dues.due(name + "ask", board.ask(x, y), model.ask(x, y));
        readAnswer();
        int many = between(1, 6);
        write(7, 0, many, 1 + 2 * many);
        for (int i = 1; i <= 2 * many; i++) write(7, i, between(-20, 20), 0);
        dues.due(name + "mean", board.mean(7), model.mean(7));
        readAnswer();
    }

    private void readAnswer() {
        for (int what = 0; what < 18; what++) {
            dues.due(name + "answer(" + what + ")", board.answer(what), model.answer(what));
            readResult(name + "answer(" + what + "): ");
        }
    }

    private void readResult(String call) {
        for (int what = 0; what < 3; what++) dues.due(call + "look(" + what + ")", board.look(what), model.look(what));
        for (int i = 0; i < 7; i++) {
            dues.due(call + "part(false, " + i + ")", board.part(false, i), model.part(false, i));
            dues.due(call + "part(true, " + i + ")", board.part(true, i), model.part(true, i));
        }
        longest = Math.max(longest, board.look(1));
    }

    private void leaveOut() {
        for (int i = 0; i < 8; i++) {
            dues.due(name + "leftOut(" + i + ")", board.leftOut(i), model.leftOut(i));
            readResult(name + "leftOut(" + i + "): ");
        }
        dues.due(name + "worst()", board.worst(), model.worst());
        dues.due(name + "best()", board.best(), model.best());
        for (int l = 0; l < 6; l++) dues.due(name + "allowed(" + l + ")", board.allowed(l), model.allowed(l));
    }
}
