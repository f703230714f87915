import java.math.BigInteger;
import java.util.Arrays;

/** Inputs and series that several tests use; a test extends this, since Java imports nothing from a class without a package. */
abstract class Examples {
    static final int MIN = Integer.MIN_VALUE;
    static final int MAX = Integer.MAX_VALUE;
    static final int[] BAD_SERIES = {-1, 8, 9, 16, 97, -8, MIN, MAX};

    static int mod(long number) {
        return (int) Math.floorMod(number, 97L);
    }

    static int divided(long number, long by) {
        BigInteger modulus = BigInteger.valueOf(97);
        BigInteger inverse = BigInteger.valueOf(by).modInverse(modulus);
        return BigInteger.valueOf(number).multiply(inverse).mod(modulus).intValue();
    }

    static boolean takesSeriesA(int kind) {
        return kind >= LazySeries.SUM;
    }

    static boolean takesSeriesB(int kind) {
        return kind == LazySeries.SUM || kind == LazySeries.PRODUCT || kind == LazySeries.COMPOSE;
    }

    static int[] coefficients(LazySeries x, int s) {
        int[] all = new int[16];
        for (int n = 0; n < 16; n++) {
            all[n] = x.coefficient(s, n);
        }
        return all;
    }

    static int[] filled(int with) {
        int[] all = new int[16];
        Arrays.fill(all, with);
        return all;
    }

    /** These numbers, and then the last of them again and again. */
    static int[] beginning(int... with) {
        int[] all = filled(with[with.length - 1]);
        System.arraycopy(with, 0, all, 0, with.length);
        return all;
    }

    /** Kinds and coefficients of all series: 136 calls. */
    static int[] state(LazySeries x) {
        int[] all = new int[136];
        for (int s = 0; s < 8; s++) {
            all[128 + s] = x.kindOf(s);
            System.arraycopy(coefficients(x, s), 0, all, 16 * s, 16);
        }
        return all;
    }

    /** Series s becomes 1 + ratio x + ratio^2 x^2 + .. ; it takes series helper too. */
    static void geometric(LazySeries x, int s, int helper, int ratio) {
        x.define(helper, LazySeries.SCALE, s, ratio);
        x.define(s, LazySeries.SHIFT, helper, 1);
    }

    /** Series s becomes number (1 + x + x^2 + ..). */
    static void repeated(LazySeries x, int s, int number) {
        x.define(s, LazySeries.SHIFT, s, number);
    }

    /** Series s needs itself at each coefficient, so none has a value. */
    static void withoutValues(LazySeries x, int s) {
        x.define(s, LazySeries.SUM, s, s);
    }

    static int[] powersOf(int ratio) {
        int[] all = new int[16];
        all[0] = 1;
        for (int n = 1; n < 16; n++) {
            all[n] = mod((long) all[n - 1] * ratio);
        }
        return all;
    }

    /** exp in series 0, x in 1, the geometric series of 2 in 2 (helper 3); the rest is as at first. */
    static LazySeries withSomeSeries() {
        LazySeries x = new LazySeries();
        x.define(0, LazySeries.INTEGRAL, 0, 1);
        x.define(1, LazySeries.VARIABLE, 0, 0);
        geometric(x, 2, 3, 2);
        return x;
    }

    static int[] exponential() {
        int[] all = new int[16];
        all[0] = 1;
        for (int n = 1; n < 16; n++) {
            all[n] = divided(all[n - 1], n);
        }
        return all;
    }
}
