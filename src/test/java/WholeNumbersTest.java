import java.lang.reflect.Constructor;
import java.lang.reflect.Field;
import java.lang.reflect.Method;
import java.math.BigInteger;
import java.util.Random;

/**
 * The whole numbers inside the class against BigInteger. Runs of calls hardly ever come to the rare
 * turns of a long division (a guess that is off by one or two), so numbers are made up for them here.
 */
public final class WholeNumbersTest {
    private static final int ROUNDS = 60000;
    private static final int BASE = 1000000000;
    private static final BigInteger BIG_BASE = BigInteger.valueOf(BASE);
    private static final Random random = new Random(7);

    private final Class<?> wholeClass = Class.forName("NeighbourBoard$Whole");
    private final Class<?> dividerClass = Class.forName("NeighbourBoard$Divider");
    private final Field parts = field("parts");
    private final Field size = field("size");
    private final Field sign = field("sign");
    private final Object divider = make(dividerClass);
    private int wrong = 0;

    private WholeNumbersTest() throws ReflectiveOperationException {
    }

    public static void main(String[] args) throws ReflectiveOperationException {
        WholeNumbersTest test = new WholeNumbersTest();
        for (int round = 0; round < ROUNDS; round++) {
            test.divide(test.odd(random.nextInt(12)), test.odd(1 + random.nextInt(6)));
            test.multiply(test.odd(random.nextInt(6)), test.odd(random.nextInt(6)));
            test.addTimes(test.odd(random.nextInt(9)), test.odd(random.nextInt(9)));
        }
        System.out.println(test.wrong == 0 ? "the whole numbers are right" : test.wrong + " are wrong");
        if (test.wrong != 0) System.exit(1);
    }

    private Field field(String name) throws ReflectiveOperationException {
        Field found = wholeClass.getDeclaredField(name);
        found.setAccessible(true);
        return found;
    }

    private static Object make(Class<?> of) throws ReflectiveOperationException {
        Constructor<?> constructor = of.getDeclaredConstructor();
        constructor.setAccessible(true);
        return constructor.newInstance();
    }

    private static Method method(Class<?> of, String name, Class<?>... types) throws ReflectiveOperationException {
        Method found = of.getDeclaredMethod(name, types);
        found.setAccessible(true);
        return found;
    }

    /** Of so many parts, most of which are the lowest, the middle or the highest ones. */
    private BigInteger odd(int many) {
        BigInteger value = BigInteger.ZERO;
        for (int i = 0; i < many; i++) {
            int[] choice = {0, 0, 1, 2, BASE - 1, BASE - 1, BASE - 2, BASE / 2, BASE / 2 - 1, random.nextInt(BASE)};
            value = value.multiply(BIG_BASE).add(BigInteger.valueOf(choice[random.nextInt(choice.length)]));
        }
        return random.nextInt(3) == 0 ? value.negate() : value;
    }

    private Object whole(BigInteger value) throws ReflectiveOperationException {
        Object whole = make(wholeClass);
        int[] into = (int[]) parts.get(whole);
        BigInteger rest = value.abs();
        int many = 0;
        while (rest.signum() > 0) {
            into[many++] = rest.mod(BIG_BASE).intValue();
            rest = rest.divide(BIG_BASE);
        }
        size.setInt(whole, many);
        sign.setInt(whole, value.signum());
        return whole;
    }

    private void due(String call, Object whole, BigInteger want) throws ReflectiveOperationException {
        int[] from = (int[]) parts.get(whole);
        int many = size.getInt(whole);
        BigInteger value = BigInteger.ZERO;
        for (int i = from.length - 1; i >= 0; i--) {
            value = value.multiply(BIG_BASE).add(BigInteger.valueOf(from[i]));
        }
        boolean neat = many == 0 || from[many - 1] != 0;
        for (int i = many; i < from.length; i++) neat &= from[i] == 0;
        for (int part : from) neat &= part >= 0 && part < BASE;
        if (sign.getInt(whole) < 0) value = value.negate();
        if (!neat || value.signum() != sign.getInt(whole) || !value.equals(want)) {
            wrong++;
            if (wrong < 20) System.out.println(call + " gave " + value + ", due is " + want);
        }
    }

    private void divide(BigInteger top, BigInteger bottom) throws ReflectiveOperationException {
        if (bottom.signum() == 0) return;
        Object quotient = whole(odd(4));
        Object rest = whole(odd(4));
        method(dividerClass, "divide", wholeClass, wholeClass, wholeClass)
            .invoke(divider, whole(top), whole(bottom), quotient);
        method(dividerClass, "takeRest", wholeClass).invoke(divider, rest);
        due(top + " / " + bottom, quotient, top.divide(bottom));
        due(top + " % " + bottom, rest, top.abs().mod(bottom.abs()));
        Object both = whole(top);
        method(dividerClass, "divide", wholeClass, wholeClass, wholeClass)
            .invoke(divider, both, whole(bottom), both);
        due(top + " / " + bottom + " in place", both, top.divide(bottom));
    }

    private void multiply(BigInteger a, BigInteger b) throws ReflectiveOperationException {
        Object product = whole(odd(5));
        method(wholeClass, "multiply", wholeClass, wholeClass).invoke(product, whole(a), whole(b));
        due(a + " * " + b, product, a.multiply(b));
        int order = (int) method(wholeClass, "compareSize", wholeClass).invoke(whole(a), whole(b));
        if (Integer.signum(order) != a.abs().compareTo(b.abs())) {
            wrong++;
            System.out.println("size of " + a + " and " + b + " gave " + order);
        }
    }

    private void addTimes(BigInteger a, BigInteger b) throws ReflectiveOperationException {
        int[] choice = {0, 1, -1, 1, -1, 2, Integer.MAX_VALUE, Integer.MIN_VALUE, random.nextInt()};
        int factor = choice[random.nextInt(choice.length)];
        Object sum = whole(a);
        method(wholeClass, "addTimes", wholeClass, int.class).invoke(sum, whole(b), factor);
        due(a + " + " + b + " * " + factor, sum, a.add(b.multiply(BigInteger.valueOf(factor))));
        Object difference = whole(a);
        method(wholeClass, "addTimes", wholeClass, int.class).invoke(difference, whole(a), -1);
        due(a + " - " + a, difference, BigInteger.ZERO);
    }
}
