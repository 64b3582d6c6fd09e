import java.lang.reflect.Constructor;
import java.lang.reflect.Field;
import java.lang.reflect.Method;
import java.math.BigInteger;
import java.util.Random;

/**
 * The division inside, by limbs for which its guesses go wrong. Such limbs come up too seldom in
 * lines to be met by calls alone, so this test reaches in.
 */
public final class DivisionTest {
    private static final int BITS = 30;
    private static final int[] EDGES = {0, 0, 1, 2, (1 << 29) - 1, 1 << 29, (1 << 29) + 1,
        (1 << BITS) - 2, (1 << BITS) - 1, (1 << BITS) - 1};
    private static final Random RANDOM = new Random(17);

    public static void main(String[] args) throws Exception {
        Class<?> wholes = Class.forName("ShareSolve$Whole");
        Class<?> divisions = Class.forName("ShareSolve$Division");
        Object division = make(divisions);
        Method divide = divisions.getDeclaredMethod("divide", wholes, wholes);
        divide.setAccessible(true);
        Object above = make(wholes);
        Object under = make(wholes);
        int wrong = 0;
        for (int time = 0; time < 300000 && wrong < 10; time++) {
            BigInteger divisor = number(1 + RANDOM.nextInt(7)).max(BigInteger.ONE);
            BigInteger dividend = dividend(divisor);
            put(above, dividend);
            put(under, divisor);
            divide.invoke(division, above, under);
            BigInteger[] want = dividend.divideAndRemainder(divisor);
            BigInteger quotient = get(field(division, "quotient"));
            BigInteger rest = get(field(division, "rest"));
            if (!quotient.equals(want[0]) || !rest.equals(want[1])) {
                wrong++;
                System.out.println(dividend + " / " + divisor + " gave " + quotient + " rest " + rest
                        + ", due is " + want[0] + " rest " + want[1]);
            }
        }
        System.out.println(wrong == 0 ? "all divisions are right" : wrong + " divisions are wrong");
        if (wrong != 0) {
            System.exit(1);
        }
    }

    /** A free number, or one just at or below a multiple of the divisor. */
    private static BigInteger dividend(BigInteger divisor) {
        BigInteger other = number(1 + RANDOM.nextInt(11 - divisor.bitLength() / BITS));
        if (RANDOM.nextInt(2) == 0) {
            return other;
        }
        BigInteger near = divisor.multiply(number(1 + RANDOM.nextInt(4)));
        return near.subtract(BigInteger.valueOf(RANDOM.nextInt(2))).max(BigInteger.ZERO);
    }

    private static BigInteger number(int limbs) {
        BigInteger number = BigInteger.ZERO;
        for (int at = 0; at < limbs; at++) {
            int limb = RANDOM.nextInt(4) == 0 ? RANDOM.nextInt(1 << BITS) : EDGES[RANDOM.nextInt(EDGES.length)];
            number = number.shiftLeft(BITS).add(BigInteger.valueOf(limb));
        }
        return number;
    }

    private static Object make(Class<?> type) throws Exception {
        Constructor<?> constructor = type.getDeclaredConstructor();
        constructor.setAccessible(true);
        return constructor.newInstance();
    }

    private static Object field(Object of, String name) throws Exception {
        Field field = of.getClass().getDeclaredField(name);
        field.setAccessible(true);
        return field.get(of);
    }

    private static void put(Object whole, BigInteger value) throws Exception {
        int[] limbs = (int[]) field(whole, "limbs");
        BigInteger left = value;
        for (int at = 0; at < limbs.length; at++) {
            limbs[at] = left.intValue() & (1 << BITS) - 1;
            left = left.shiftRight(BITS);
        }
        Field used = whole.getClass().getDeclaredField("used");
        used.setAccessible(true);
        used.setInt(whole, (value.bitLength() + BITS - 1) / BITS);
    }

    private static BigInteger get(Object whole) throws Exception {
        int[] limbs = (int[]) field(whole, "limbs");
        int used = (Integer) field(whole, "used");
        BigInteger value = BigInteger.ZERO;
        for (int at = limbs.length - 1; at >= 0; at--) {
            if (at >= used && limbs[at] != 0) {
                throw new IllegalStateException("a limb beyond those used is not 0");
            }
            value = value.shiftLeft(BITS).add(BigInteger.valueOf(limbs[at]));
        }
        return value;
    }
}
