import java.lang.reflect.Method;
import java.lang.reflect.Modifier;
import java.util.Arrays;
import java.util.Comparator;
import java.util.function.IntPredicate;
import java.util.function.IntUnaryOperator;

/** Counts and prints the calls whose answers are not the ones that are due. */
final class Dues {
    private int wrong = 0;
    private int checked = 0;
    private String test = "";

    /** Runs the tests of a class: its static methods whose names start with promise or terms. */
    void runAll(Class<?> tests) throws ReflectiveOperationException {
        Method[] methods = tests.getDeclaredMethods();
        Arrays.sort(methods, Comparator.comparing(Method::getName));
        int ran = 0;
        for (Method method : methods) {
            boolean named = method.getName().startsWith("promise") || method.getName().startsWith("terms");
            if (!named || !Modifier.isStatic(method.getModifiers()) || method.getParameterCount() != 0) continue;
            test = method.getName() + ": ";
            method.setAccessible(true);
            int before = checked;
            method.invoke(null);
            due("answers that were looked at are none", checked == before, false);
            ran++;
        }
        test = "";
        System.out.println(ran + " tests");
    }

    void due(String call, long got, long want) {
        checked++;
        if (got != want) {
            wrong++;
            System.out.println(test + call + " answered " + got + ", due is " + want);
        }
    }

    void due(String call, boolean got, boolean want) {
        due(call, got ? 1 : 0, want ? 1 : 0);
    }

    /** The same answer for each of these numbers. */
    void each(String call, int want, IntUnaryOperator answer, int... numbers) {
        for (int number : numbers) due(call + " of " + number, answer.applyAsInt(number), want);
    }

    void each(String call, boolean want, IntPredicate answer, int... numbers) {
        for (int number : numbers) due(call + " of " + number, answer.test(number), want);
    }

    /** Of a result whose top and bottom are below ten digits. */
    void result(String call, NeighbourBoard b, int top, int bottom) {
        due(call + ": look(0)", b.look(0), Integer.signum(top));
        due(call + ": look(1)", b.look(1), 1);
        due(call + ": look(2)", b.look(2), 1);
        due(call + ": part(false, 0)", b.part(false, 0), Math.abs(top));
        due(call + ": part(true, 0)", b.part(true, 0), bottom);
    }

    /** Of an answer whose parts are below ten digits. */
    void answer(String call, NeighbourBoard b, int what, int top, int bottom) {
        due(call + ": answer(" + what + ")", b.answer(what), true);
        result(call + ": answer(" + what + ")", b, top, bottom);
    }

    void end() {
        System.out.println(wrong == 0 ? "all " + checked + " answers are as due" : wrong + " answers are not as due");
        if (wrong != 0) System.exit(1);
    }

    /** A row with just these numbers. */
    static void lay(NeighbourBoard b, int slot, int width, long... numbers) {
        b.row(slot, width, numbers.length);
        for (int i = 0; i < numbers.length; i++) b.write(slot, i, numbers[i]);
    }
}
