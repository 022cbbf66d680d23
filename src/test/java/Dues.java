/** Counts and prints the calls whose answers are not the ones that are due. */
final class Dues {
    private int wrong = 0;
    private int checked = 0;

    void due(String call, long got, long want) {
        checked++;
        if (got != want) {
            wrong++;
            System.out.println(call + " answered " + got + ", due is " + want);
        }
    }

    void due(String call, boolean got, boolean want) {
        due(call, got ? 1 : 0, want ? 1 : 0);
    }

    /** Of a result whose top and bottom are below ten digits. */
    void result(String call, NeighbourBoard b, int top, int bottom) {
        due(call + ": look(0)", b.look(0), Integer.signum(top));
        due(call + ": look(1)", b.look(1), 1);
        due(call + ": look(2)", b.look(2), 1);
        due(call + ": part(false, 0)", b.part(false, 0), Math.abs(top));
        due(call + ": part(true, 0)", b.part(true, 0), bottom);
    }

    void end() {
        System.out.println(wrong == 0 ? "all " + checked + " answers are as due" : wrong + " answers are not as due");
        if (wrong != 0) System.exit(1);
    }

    /** A row with just these numbers. */
    static void lay(NeighbourBoard b, int slot, int width, long... numbers) {
        b.row(slot, width, numbers.length);
        for (int i = 0; i < numbers.length; i++) b.write(slot, i, numbers[i]);
    }
}
