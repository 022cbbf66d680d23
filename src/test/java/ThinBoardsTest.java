import java.util.Random;

/**
 * Boards on the edge between regular and singular: the places stand on a line so that no two ways are
 * alike, and a table tells for each pair the square of how far apart two points of a lattice are. All
 * but the last determinants are large then and the last is 1, or 0 if the points lie in fewer
 * dimensions; a change by 1 in the table turns it over. On the class and on BoardModel side by side.
 */
public final class ThinBoardsTest {
    private static final int BOARDS = 400;
    /** No two pairs of these are alike far apart. */
    private static final int[] MARKS = {0, 1, 4, 9, 15, 22, 32, 34};
    private static final int HIGHEST = 8000;

    private final Random random;
    private final Dues dues;
    private final NeighbourBoard board = new NeighbourBoard();
    private final BoardModel model = new BoardModel();
    private final String name;
    private final int many;
    private final int[][] points;

    private ThinBoardsTest(int seed, Dues dues) {
        random = new Random(seed);
        this.dues = dues;
        name = "thin board " + seed + ": ";
        many = 3 + random.nextInt(6);
        int dimensions = random.nextInt(3) == 0 ? 1 + random.nextInt(many - 1) : many - 1;
        points = new int[many][dimensions];
    }

    public static void main(String[] args) {
        Dues dues = new Dues();
        int[] kinds = new int[3];
        for (int seed = 0; seed < BOARDS; seed++) {
            ThinBoardsTest test = new ThinBoardsTest(seed, dues);
            test.spread();
            test.build();
            kinds[test.board.allowed(0)]++;
            test.compare();
        }
        dues.due("boards of each kind are among them", kinds[0] > 20 && kinds[1] > 20 && kinds[2] > 20, true);
        dues.end();
    }

    private int distance(int i, int j) {
        int all = 0;
        for (int d = 0; d < points[i].length; d++) {
            int difference = points[i][d] - points[j][d];
            all += difference * difference;
        }
        return all;
    }

    private boolean isTooFar(int i) {
        for (int j = 0; j < many; j++) {
            if (distance(i, j) > HIGHEST) return true;
        }
        return false;
    }

    /** Steps of the lattice's own, so that the points stay a basis of it (the first one is 0). */
    private void spread() {
        for (int i = 1; i < many; i++) points[i][(i - 1) % points[i].length] = 1;
        for (int step = 0; step < 60; step++) {
            int i = 1 + random.nextInt(many - 1);
            int j = 1 + random.nextInt(many - 1);
            if (i == j) continue;
            int times = random.nextInt(9) - 4;
            int[] old = points[i].clone();
            for (int d = 0; d < old.length; d++) points[i][d] += times * points[j][d];
            if (isTooFar(i)) points[i] = old;
        }
    }

    private void build() {
        int[] told = new int[35];
        for (int i = 0; i < many; i++) {
            for (int j = 0; j < i; j++) told[MARKS[i] - MARKS[j]] = distance(i, j);
        }
        if (random.nextInt(3) == 0) {
            int way = MARKS[1 + random.nextInt(many - 1)];
            told[way] = Math.max(0, Math.min(HIGHEST, told[way] + (random.nextBoolean() ? 1 : -1)));
        }
        dues.due(name + "row", board.row(0, 1, 35), model.row(0, 1, 35));
        told[0] = 34;
        for (int i = 0; i < 35; i++) dues.due(name + "write", board.write(0, i, told[i]), model.write(0, i, told[i]));
        dues.due(name + "table", board.table(0), model.table(0));
        dues.due(name + "sum", board.sum(0, 0), model.sum(0, 0));
        for (int i = 0; i < many; i++) {
            int number = random.nextInt(2001) - 1000;
            int doubt = random.nextInt(20) == 0 ? random.nextInt(101) : 0;
            int x = MARKS[i] - 17;
            dues.due(name + "see", board.see(x, 0, number, doubt), model.see(x, 0, number, doubt));
        }
    }

    private void compare() {
        for (int l = 0; l < 2; l++) {
            dues.due(name + "allowed(" + l + ")", board.allowed(l), model.allowed(l));
            dues.due(name + "use(" + l + ")", board.use(l), model.use(l));
            int x = random.nextInt(35) - 17;
            dues.due(name + "ask", board.ask(x, 0), model.ask(x, 0));
            for (int what = 0; what < 18; what++) {
                dues.due(name + "answer(" + what + ")", board.answer(what), model.answer(what));
                compareResult();
            }
        }
        for (int i = 0; i < many; i++) {
            dues.due(name + "leftOut(" + i + ")", board.leftOut(i), model.leftOut(i));
            compareResult();
        }
        dues.due(name + "worst()", board.worst(), model.worst());
        dues.due(name + "best()", board.best(), model.best());
    }

    private void compareResult() {
        for (int what = 0; what < 3; what++) dues.due(name + "look(" + what + ")", board.look(what), model.look(what));
        for (int i = 0; i < 6; i++) {
            dues.due(name + "part(false, " + i + ")", board.part(false, i), model.part(false, i));
            dues.due(name + "part(true, " + i + ")", board.part(true, i), model.part(true, i));
        }
    }
}
