/** A test for each sentence of "Terms" that names a boundary case. */
public final class LazySeriesTermsBoundaries extends Examples {
    /** Numbers at and about the edges, each with what it is reduced to. */
    private static final int[][] REDUCED = {
        {0, 0}, {1, 1}, {95, 95}, {96, 96}, {97, 0}, {98, 1}, {193, 96}, {194, 0},
        {-1, 96}, {-2, 95}, {-96, 1}, {-97, 0}, {-98, 96}, {-194, 0}, {-195, 96},
        {MAX, 65}, {MAX - 1, 64}, {MIN, 31}, {MIN + 1, 32},
        // The multiples of 97 that lie nearest to the ends of int, and what stands before one.
        {2147483582, 0}, {-2147483582, 0}, {2147483581, 96},
    };
    private static final int[] MULTIPLES_OF_97 = {0, 97, -97, 194, -194, 2147483582, -2147483582};
    private static final int[] NO_MULTIPLES_OF_97 = {1, 96, 98, -1, -96, -98, MIN, MAX};

    private static final Check check = new Check();

    public static void main(String[] args) {
        eightSeries();
        sixteenCoefficients();
        atFirst();
        coefficientsAreReduced();
        numbersAreReduced();
        constant();
        variable();
        sumNeedsBoth();
        productNeedsAllUpToN();
        scaleByZero();
        derivativeBelowTheTop();
        derivativeAtTheTop();
        integralAtZero();
        integralAboveZero();
        division();
        shiftAtZero();
        shiftAboveZero();
        reciprocalAtZero();
        reciprocalNeedsWhatIsBelow();
        reciprocalOfZero();
        composeAtBothEnds();
        composeNeedsAllUpToN();
        composeWithoutZero();
        fromTheBottomUp();
        needsItselfDirectly();
        needsItselfOverOthers();
        needsWhatHasNoValue();
        check.finish();
    }

    // The ends of the series and of the coefficients.

    private static void eightSeries() {
        check.sentence("There are eight SERIES, 0 .. 7");
        LazySeries x = new LazySeries();
        for (int s = 0; s < 8; s++) {
            check.due("define " + s, x.define(s, LazySeries.CONSTANT, 0, 10 + s), LazySeries.CONSTANT);
        }
        for (int s = 0; s < 8; s++) {
            check.due("series " + s, coefficients(x, s), beginning(10 + s, 0));
        }
        check.due("one too low", x.coefficient(-1, 0), -1);
        check.due("one too high", x.coefficient(8, 0), -1);
        check.due("the ends as parts", x.define(3, LazySeries.SUM, 0, 7), LazySeries.CONSTANT);
        check.due("their sum", x.coefficient(3, 0), 27);
    }

    private static void sixteenCoefficients() {
        check.sentence("Each has coefficients 0 .. 15");
        LazySeries x = new LazySeries();
        for (int s = 0; s < 8; s++) {
            repeated(x, s, 10 + s);
        }
        for (int s = 0; s < 8; s++) {
            check.due("all of series " + s, coefficients(x, s), filled(10 + s));
            check.due("before the first of " + s, x.coefficient(s, -1), -2);
            check.due("after the last of " + s, x.coefficient(s, 16), -2);
        }
    }

    private static void atFirst() {
        check.sentence("All series are CONSTANT with b = 0 at first");
        LazySeries x = new LazySeries();
        for (int s = 0; s < 8; s++) {
            check.due("kindOf " + s, x.kindOf(s), LazySeries.CONSTANT);
            check.due("coefficients of " + s, coefficients(x, s), filled(0));
        }
        // Parts that are 0 but played a role would show as needs of series 0.
        for (int place = 0; place < 128; place++) {
            check.due("needs " + place, x.needs(place, place % 16), 0);
        }
    }

    // The wrap-around at 97.

    private static void coefficientsAreReduced() {
        check.sentence("Each has coefficients .. (numbers 0 .. 96)");
        for (int p = 0; p <= 96; p++) {
            LazySeries x = new LazySeries();
            x.define(0, LazySeries.CONSTANT, 0, p);
            x.define(1, LazySeries.CONSTANT, 0, 96 - p);
            x.define(2, LazySeries.SUM, 0, 1);
            check.due(p + " and what makes it 96", x.coefficient(2, 0), 96);
            x.define(1, LazySeries.CONSTANT, 0, 97 - p);
            check.due(p + " and what makes it 97", x.coefficient(2, 0), 0);
            x.define(1, LazySeries.CONSTANT, 0, 96);
            check.due(p + " and 96", x.coefficient(2, 0), p == 0 ? 96 : p - 1);
            x.define(2, LazySeries.PRODUCT, 0, 1);
            check.due(p + " times 96", x.coefficient(2, 0), p == 0 ? 0 : 97 - p);
            x.define(2, LazySeries.SCALE, 0, 96);
            check.due("96 times " + p, x.coefficient(2, 0), p == 0 ? 0 : 97 - p);
        }
        // -1 - x - x^2 - .. makes every sum as large as it can be.
        LazySeries x = new LazySeries();
        repeated(x, 0, 96);
        x.define(1, LazySeries.PRODUCT, 0, 0);
        x.define(2, LazySeries.DERIVATIVE, 0, 0);
        x.define(3, LazySeries.INTEGRAL, 0, 96);
        x.define(4, LazySeries.RECIPROCAL, 0, 0);
        x.define(5, LazySeries.SHIFT, 0, 0);
        x.define(6, LazySeries.COMPOSE, 0, 5);
        for (int n = 0; n < 16; n++) {
            check.due("its square at " + n, x.coefficient(1, n), n + 1);
            check.due("its derivative at " + n, x.coefficient(2, n), n == 15 ? -3 : 96 - n);
            check.due("its integral at " + n, x.coefficient(3, n), n == 0 ? 96 : divided(96, n));
        }
        check.due("-(1 - x)", coefficients(x, 4), beginning(96, 1, 0));
        check.due("-1 / (1 + x / (1 - x))", coefficients(x, 6), beginning(96, 1, 0));
    }

    private static void numbersAreReduced() {
        check.sentence("a part that is a number is reduced to 0 .. 96 (never negative)");
        for (int[] number : REDUCED) {
            LazySeries x = new LazySeries();
            repeated(x, 0, 1);
            x.define(1, LazySeries.CONSTANT, 0, number[0]);
            x.define(2, LazySeries.SCALE, 0, number[0]);
            x.define(3, LazySeries.INTEGRAL, 0, number[0]);
            x.define(4, LazySeries.SHIFT, 0, number[0]);
            check.due("CONSTANT " + number[0], coefficients(x, 1), beginning(number[1], 0));
            check.due("SCALE by " + number[0], coefficients(x, 2), filled(number[1]));
            check.due("INTEGRAL from " + number[0], x.coefficient(3, 0), number[1]);
            check.due("SHIFT with " + number[0], coefficients(x, 4), beginning(number[1], 1));
        }
    }

    // The kinds, one by one.

    private static void constant() {
        check.sentence("CONSTANT 0 (number b): b for n = 0, otherwise 0. Needs nothing");
        LazySeries x = new LazySeries();
        x.define(7, LazySeries.CONSTANT, 7, 7);
        check.due("CONSTANT 7", coefficients(x, 7), beginning(7, 0));
        needsNothing(x, 16 * 7);
        needsNothing(x, 16 * 7 + 15);
    }

    private static void variable() {
        check.sentence("VARIABLE 1: 1 for n = 1, otherwise 0. Needs nothing");
        LazySeries x = new LazySeries();
        x.define(7, LazySeries.VARIABLE, 7, 7);
        check.due("VARIABLE", coefficients(x, 7), beginning(0, 1, 0));
        needsNothing(x, 16 * 7);
        needsNothing(x, 16 * 7 + 1);
        needsNothing(x, 16 * 7 + 15);
    }

    private static void needsNothing(LazySeries x, int place) {
        for (int other = 0; other < 128; other++) {
            check.due("needs of " + place, x.needs(place, other), 0);
        }
    }

    private static void sumNeedsBoth() {
        check.sentence("SUM 2 (series a and b): a[n] + b[n]. Needs both");
        LazySeries x = withoutTheLastAndWithout();
        x.define(3, LazySeries.SUM, 0, 0);
        check.due("a and b the same", coefficients(x, 3), filled(2));
        lastIsMissing(x, LazySeries.SUM, 0, 1, new int[] {1 + 1, 1 + 2, 1 + 3});
        lastIsMissing(x, LazySeries.SUM, 1, 0, new int[] {1 + 1, 2 + 1, 3 + 1});
        allAreMissing(x, LazySeries.SUM, 0, 2);
        allAreMissing(x, LazySeries.SUM, 2, 0);
    }

    private static void productNeedsAllUpToN() {
        check.sentence("PRODUCT 3: the sum .. over i = 0 .. n. Needs a[0] .. a[n] and b[0] .. b[n]");
        LazySeries x = withoutTheLastAndWithout();
        x.define(4, LazySeries.VARIABLE, 0, 0);
        x.define(5, LazySeries.CONSTANT, 0, 1);
        // 1 times a leaves but the product with b[0] or a[0]: the two ends of the sum.
        x.define(3, LazySeries.PRODUCT, 5, 0);
        check.due("1 times a", coefficients(x, 3), filled(1));
        x.define(3, LazySeries.PRODUCT, 0, 5);
        check.due("a times 1", coefficients(x, 3), filled(1));
        x.define(3, LazySeries.PRODUCT, 0, 0);
        for (int n = 0; n < 16; n++) {
            check.due("n + 1 summands at " + n, x.coefficient(3, n), n + 1);
        }
        // At 15 the factor x meets the missing coefficient with a 0; it is needed all the same.
        lastIsMissing(x, LazySeries.PRODUCT, 4, 1, new int[] {0, 1, 2});
        lastIsMissing(x, LazySeries.PRODUCT, 1, 4, new int[] {0, 1, 2});
        allAreMissing(x, LazySeries.PRODUCT, 6, 2);
        allAreMissing(x, LazySeries.PRODUCT, 2, 6);
    }

    private static void scaleByZero() {
        check.sentence("SCALE 4 (series a, number b): b * a[n]. Needs a[n]");
        for (int number : MULTIPLES_OF_97) {
            LazySeries x = withoutTheLastAndWithout();
            x.define(3, LazySeries.SCALE, 0, number);
            check.due("0 times a", coefficients(x, 3), filled(0));
            check.due("0 times a needs a[0]", x.needs(16 * 3, 0), 1);
            check.due("0 times a needs a[15]", x.needs(16 * 3 + 15, 15), 1);
            check.due("no need of what is above", x.needs(16 * 3 + 14, 15), 0);
            x.define(3, LazySeries.SCALE, 1, number);
            check.due("0 times a[15] without a value", x.coefficient(3, 15), -3);
            check.due("0 times what stands before", x.coefficient(3, 14), 0);
            allAreMissing(x, LazySeries.SCALE, 2, number);
        }
    }

    private static void derivativeBelowTheTop() {
        check.sentence("DERIVATIVE 5 (series a): (n + 1) * a[n + 1]. Needs a[n + 1]");
        LazySeries x = new LazySeries();
        repeated(x, 7, 1);
        x.define(0, LazySeries.DERIVATIVE, 7, 0);
        check.due("at 0", x.coefficient(0, 0), 1);
        check.due("at 14", x.coefficient(0, 14), 15);
        x.define(6, LazySeries.DERIVATIVE, 5, 0);
        for (int m = 0; m < 16; m++) {
            check.due("0 needs a[" + m + "]", x.needs(16 * 6, 16 * 5 + m), m == 1 ? 1 : 0);
            check.due("14 needs a[" + m + "]", x.needs(16 * 6 + 14, 16 * 5 + m), m == 15 ? 1 : 0);
        }
        x.define(1, LazySeries.DERIVATIVE, 0, 0);
        check.due("where a[15] has no value", x.coefficient(1, 14), -3);
        check.due("before it", x.coefficient(1, 13), mod(14 * 15));
        withoutValues(x, 2);
        x.define(3, LazySeries.SHIFT, 2, 5);
        x.define(4, LazySeries.DERIVATIVE, 3, 0);
        check.due("where a[0] alone has a value", coefficients(x, 4), filled(-3));
    }

    private static void derivativeAtTheTop() {
        check.sentence("for n = 15 it needs nothing and has no value");
        for (int s = 0; s < 8; s++) {
            for (int a = 0; a < 8; a++) {
                LazySeries x = new LazySeries();
                for (int t = 0; t < 8; t++) {
                    repeated(x, t, 1);
                }
                x.define(s, LazySeries.DERIVATIVE, a, 0);
                check.due(s + " from " + a + " at 15", x.coefficient(s, 15), -3);
                check.due(s + " from " + a + " at 14", x.coefficient(s, 14), s == a ? -3 : 15);
                needsNothing(x, 16 * s + 15);
            }
        }
    }

    private static void integralAtZero() {
        check.sentence("INTEGRAL 6 (series a, number b): b for n = 0 (needs nothing)");
        firstIsTheNumber(LazySeries.INTEGRAL);
    }

    private static void shiftAtZero() {
        check.sentence("SHIFT 8 (series a, number b): b for n = 0 (needs nothing)");
        firstIsTheNumber(LazySeries.SHIFT);
    }

    private static void firstIsTheNumber(int kind) {
        for (int a = 0; a < 8; a++) {
            LazySeries x = new LazySeries();
            for (int t = 0; t < 8; t++) {
                repeated(x, t, 1);
            }
            int s = (a + 1) % 8;
            x.define(s, kind, a, 50);
            check.due("n = 0 from " + a, x.coefficient(s, 0), 50);
            needsNothing(x, 16 * s);
            withoutValues(x, a);
            check.due("n = 0 where a has no values", coefficients(x, s), beginning(50, -3));
            x.define(s, kind, a, 0);
            check.due("the number 0 is a value too", coefficients(x, s), beginning(0, -3));
        }
    }

    private static void integralAboveZero() {
        check.sentence("INTEGRAL: otherwise a[n - 1] / n. Needs a[n - 1]");
        LazySeries x = needsTheOneBelow(LazySeries.INTEGRAL);
        check.due("at 1: a[0]", x.coefficient(3, 1), 1);
        check.due("at 15: 15 a[14] / 15 a[14]", x.coefficient(3, 15), 1);
        x.define(3, LazySeries.INTEGRAL, 3, 1);
        check.due("of itself", coefficients(x, 3), exponential());
    }

    private static void shiftAboveZero() {
        check.sentence("SHIFT: otherwise a[n - 1]. Needs a[n - 1]");
        LazySeries x = needsTheOneBelow(LazySeries.SHIFT);
        check.due("at 1: a[0]", x.coefficient(3, 1), 1);
        check.due("at 15: a[14]", x.coefficient(3, 15), 15);
        x.define(3, LazySeries.SHIFT, 3, 96);
        check.due("of itself", coefficients(x, 3), filled(96));
    }

    /** Series 3 of the kind, from series 1, whose a[14] is its last value. */
    private static LazySeries needsTheOneBelow(int kind) {
        LazySeries x = withoutTheLastAndWithout();
        x.define(3, kind, 1, 4);
        check.due("a[15] plays no role", x.valued(3), 16);
        check.due("15 needs a[14]", x.needs(16 * 3 + 15, 16 + 14), 1);
        check.due("15 does not need a[15]", x.needs(16 * 3 + 15, 16 + 15), 0);
        check.due("1 needs a[0]", x.needs(16 * 3 + 1, 16), 1);
        check.due("1 does not need a[1]", x.needs(16 * 3 + 1, 16 + 1), 0);
        return x;
    }

    private static void division() {
        check.sentence("x / y is the number z with y * z = x modulo 97");
        for (int number = 0; number <= 96; number++) {
            LazySeries x = new LazySeries();
            repeated(x, 0, number);
            x.define(1, LazySeries.INTEGRAL, 0, 0);
            x.define(2, LazySeries.RECIPROCAL, 0, 0);
            for (int n = 1; n < 16; n++) {
                int z = x.coefficient(1, n);
                check.holds(number + " / " + n + " is 0 .. 96, not " + z, z >= 0 && z <= 96);
                check.due(number + " / " + n + ", times " + n, mod((long) n * z), number);
            }
            int z = x.coefficient(2, 0);
            check.due("1 / " + number + ", times " + number, number == 0 ? z : mod((long) number * z), number == 0 ? -3 : 1);
        }
    }

    private static void reciprocalAtZero() {
        check.sentence("RECIPROCAL 7: r[0] = 1 / a[0]");
        LazySeries x = new LazySeries();
        withoutValues(x, 0);
        x.define(1, LazySeries.SHIFT, 0, 5);
        x.define(2, LazySeries.RECIPROCAL, 1, 0);
        check.due("a[0] = 5 alone has a value", coefficients(x, 2), beginning(39, -3));
        x.define(1, LazySeries.SHIFT, 0, 1);
        check.due("1 / 1", coefficients(x, 2), beginning(1, -3));
        x.define(1, LazySeries.SHIFT, 0, -1);
        check.due("1 / 96", coefficients(x, 2), beginning(96, -3));
        allAreMissing(x, LazySeries.RECIPROCAL, 0, 0);
    }

    private static void reciprocalNeedsWhatIsBelow() {
        check.sentence("RECIPROCAL: Needs a[0] .. a[n] and S[0] .. S[n - 1]");
        LazySeries x = withoutTheLastAndWithout();
        x.define(3, LazySeries.RECIPROCAL, 0, 0);
        check.due("1 / (1 + x + x^2 + ..)", coefficients(x, 3), beginning(1, 96, 0));
        x.define(3, LazySeries.RECIPROCAL, 7, 0);
        for (int n = 0; n < 16; n += 5) {
            for (int m = 0; m < 16; m++) {
                check.due(n + " needs a[" + m + "]", x.needs(16 * 3 + n, 16 * 7 + m), m <= n ? 1 : 0);
                check.due(n + " needs S[" + m + "]", x.needs(16 * 3 + n, 16 * 3 + m), m < n ? 1 : 0);
            }
        }
        lastIsMissing(x, LazySeries.RECIPROCAL, 1, 0, new int[] {1, 95, 1, 0});
    }

    private static void reciprocalOfZero() {
        check.sentence("RECIPROCAL: it has no value if a[0] is 0");
        for (int number : MULTIPLES_OF_97) {
            LazySeries x = new LazySeries();
            x.define(1, LazySeries.CONSTANT, 0, number);
            allAreMissing(x, LazySeries.RECIPROCAL, 1, 0);
            repeated(x, 2, 5);
            x.define(1, LazySeries.SHIFT, 2, number);
            allAreMissing(x, LazySeries.RECIPROCAL, 1, 0);
        }
        for (int number : NO_MULTIPLES_OF_97) {
            LazySeries x = new LazySeries();
            x.define(1, LazySeries.CONSTANT, 0, number);
            x.define(3, LazySeries.RECIPROCAL, 1, 0);
            check.due("1 / " + number, coefficients(x, 3), beginning(divided(1, number), 0));
        }
        LazySeries x = new LazySeries();
        x.define(0, LazySeries.CONSTANT, 0, 96);
        x.define(1, LazySeries.CONSTANT, 0, 1);
        x.define(2, LazySeries.SUM, 0, 1);
        allAreMissing(x, LazySeries.RECIPROCAL, 2, 0);
        x.define(2, LazySeries.VARIABLE, 0, 0);
        allAreMissing(x, LazySeries.RECIPROCAL, 2, 0);
        check.due("it needs all the same", x.needs(16 * 3 + 15, 16 * 3 + 14) + x.needs(16 * 3, 16 * 2), 2);
    }

    private static void composeAtBothEnds() {
        check.sentence("COMPOSE 9: the sum, over j = 0 .. n, of a[j] times .. (the 0-th power is 1)");
        LazySeries x = new LazySeries();
        repeated(x, 0, 7);
        x.define(3, LazySeries.COMPOSE, 0, 1);
        check.due("b is 0: a[0] times 1", coefficients(x, 3), beginning(7, 0));
        x.define(1, LazySeries.VARIABLE, 0, 0);
        check.due("b is x: up to a[15] times x^15", coefficients(x, 3), filled(7));
        x.define(2, LazySeries.SCALE, 1, 2);
        x.define(3, LazySeries.COMPOSE, 0, 2);
        check.due("b is 2 x, at 15", x.coefficient(3, 15), mod(7 * (1 << 15)));
        x.define(2, LazySeries.SHIFT, 0, 0);
        x.define(3, LazySeries.COMPOSE, 1, 2);
        check.due("a is x: b itself", coefficients(x, 3), beginning(0, 7));
        withoutValues(x, 4);
        x.define(5, LazySeries.SHIFT, 4, 0);
        x.define(3, LazySeries.COMPOSE, 0, 5);
        check.due("b[0] = 0 alone has a value", coefficients(x, 3), beginning(7, -3));
        x.define(5, LazySeries.SHIFT, 4, 9);
        x.define(3, LazySeries.COMPOSE, 5, 1);
        check.due("a[0] = 9 alone has a value", coefficients(x, 3), beginning(9, -3));
    }

    private static void composeNeedsAllUpToN() {
        check.sentence("COMPOSE: Needs a[0] .. a[n] and b[0] .. b[n]");
        LazySeries x = withoutTheLastAndWithout();
        x.define(4, LazySeries.VARIABLE, 0, 0);
        lastIsMissing(x, LazySeries.COMPOSE, 1, 4, new int[] {1, 2, 3});
        // The series 1 has no use for b, nor has any series for the a[j] that meet a power 0; they are needed all the same.
        x.define(5, LazySeries.DERIVATIVE, 7, 0);
        x.define(6, LazySeries.CONSTANT, 0, 1);
        lastIsMissing(x, LazySeries.COMPOSE, 6, 5, new int[] {1, 0});
        lastIsMissing(x, LazySeries.COMPOSE, 1, 7, new int[] {1, 0});
        allAreMissing(x, LazySeries.COMPOSE, 2, 7);
        allAreMissing(x, LazySeries.COMPOSE, 6, 2);
        x.define(3, LazySeries.COMPOSE, 6, 7);
        for (int n = 0; n < 16; n += 5) {
            for (int m = 0; m < 16; m++) {
                check.due(n + " needs a[" + m + "]", x.needs(16 * 3 + n, 16 * 6 + m), m <= n ? 1 : 0);
                check.due(n + " needs b[" + m + "]", x.needs(16 * 3 + n, 16 * 7 + m), m <= n ? 1 : 0);
            }
        }
    }

    private static void composeWithoutZero() {
        check.sentence("COMPOSE: it has no value if b[0] is not 0");
        for (int number : NO_MULTIPLES_OF_97) {
            LazySeries x = new LazySeries();
            x.define(1, LazySeries.CONSTANT, 0, number);
            allAreMissing(x, LazySeries.COMPOSE, 0, 1);
            repeated(x, 0, 1);
            x.define(1, LazySeries.SHIFT, 0, number);
            allAreMissing(x, LazySeries.COMPOSE, 0, 1);
            check.due("it needs all the same", x.needs(16 * 3 + 15, 15) + x.needs(16 * 3, 16), 2);
        }
        for (int number : MULTIPLES_OF_97) {
            LazySeries x = new LazySeries();
            repeated(x, 0, 5);
            x.define(1, LazySeries.CONSTANT, 0, number);
            x.define(3, LazySeries.COMPOSE, 0, 1);
            check.due("b[0] = " + number, coefficients(x, 3), beginning(5, 0));
        }
        LazySeries x = new LazySeries();
        x.define(0, LazySeries.CONSTANT, 0, 96);
        x.define(1, LazySeries.CONSTANT, 0, 1);
        x.define(2, LazySeries.SUM, 0, 1);
        x.define(3, LazySeries.COMPOSE, 0, 2);
        check.due("b[0] = 96 + 1", coefficients(x, 3), beginning(96, 0));
    }

    // What has a value.

    private static void fromTheBottomUp() {
        check.sentence("those that need nothing come first, then those that need only such ones, and so on");
        for (int step : new int[] {1, 3, 5, 7}) {
            for (int start = 0; start < 8; start++) {
                LazySeries x = chainOverAllPlaces(start, step);
                for (int s = 0; s < 8; s++) {
                    check.due("a chain of 128 from " + start + " by " + step, x.evaluate(s, 16, 1), 16 * 3);
                }
                int last = (start + 7 * step) % 8;
                check.due("its end needs its start", x.needs(16 * last + 15, 16 * start), 1);
                check.due("its start needs nothing", x.needs(16 * start, 16 * last + 15), 0);
                // Cut after four, each of these four keeps its coefficient 0, and there is no more.
                withoutValues(x, (start + 4 * step) % 8);
                for (int i = 0; i < 8; i++) {
                    int s = (start + i * step) % 8;
                    check.due("the chain is cut, link " + i, coefficients(x, s), i < 4 ? beginning(3, -3) : filled(-3));
                }
            }
        }
    }

    /** Each coefficient n is that of the series a step before it; the first takes n - 1 of the last one. */
    private static LazySeries chainOverAllPlaces(int start, int step) {
        LazySeries x = new LazySeries();
        for (int i = 1; i < 8; i++) {
            x.define((start + i * step) % 8, LazySeries.SCALE, (start + (i - 1) * step) % 8, 1);
        }
        x.define(start, LazySeries.SHIFT, (start + 7 * step) % 8, 3);
        return x;
    }

    private static void needsItselfDirectly() {
        check.sentence("what is never reached this way (because it needs itself, directly ..)");
        int[][] definitions = {
            {LazySeries.SUM, 1, 1}, {LazySeries.SUM, 1, 0}, {LazySeries.SUM, 0, 1},
            {LazySeries.PRODUCT, 1, 1}, {LazySeries.PRODUCT, 1, 0}, {LazySeries.PRODUCT, 0, 1},
            {LazySeries.COMPOSE, 1, 1}, {LazySeries.COMPOSE, 1, 0}, {LazySeries.COMPOSE, 0, 1},
            {LazySeries.SCALE, 1, 0}, {LazySeries.RECIPROCAL, 1, 0},
        };
        for (int[] definition : definitions) {
            for (int s = 0; s < 8; s += 7) {
                int kind = definition[0];
                // Here 1 means the series itself, and 0 another one that has all its values.
                int a = definition[1] == 1 ? s : 3;
                int b = definition[2] == 1 ? s : 3;
                LazySeries x = new LazySeries();
                x.define(s, kind, a, b);
                String call = "kind " + kind + " of " + a + " and " + b + " as " + s;
                check.due(call, coefficients(x, s), filled(-3));
                check.due(call + " needs itself at 0", x.needs(16 * s, 16 * s), 1);
                check.due(call + " needs itself at 15", x.needs(16 * s + 15, 16 * s + 15), 1);
            }
        }
    }

    private static void needsItselfOverOthers() {
        check.sentence("what is never reached this way (because it needs itself, .. over others ..)");
        for (int length = 2; length <= 8; length++) {
            LazySeries x = new LazySeries();
            for (int s = 0; s < length; s++) {
                x.define(s, LazySeries.SCALE, (s + 1) % length, 1);
            }
            for (int s = 0; s < 8; s++) {
                check.due("a ring of " + length, x.valued(s), s < length ? 0 : 16);
                check.due("in a ring of " + length, x.needs(16 * s + 15, 16 * s + 15), s < length ? 1 : 0);
            }
            x.define(length - 1, LazySeries.SHIFT, 0, 1);
            for (int s = 0; s < 8; s++) {
                check.due("no ring any more", x.valued(s), 16);
                check.due("not in a ring any more", x.needs(16 * s + 15, 16 * s + 15), 0);
            }
        }
        LazySeries x = new LazySeries();
        x.define(0, LazySeries.INTEGRAL, 1, 5);
        x.define(1, LazySeries.DERIVATIVE, 0, 0);
        check.due("the integral of its own derivative", coefficients(x, 0), beginning(5, -3));
        check.due("the derivative of its own integral", coefficients(x, 1), filled(-3));
        for (int n = 0; n < 16; n++) {
            check.due("the integral's " + n, x.needs(n, n), n == 0 ? 0 : 1);
            check.due("the derivative's " + n, x.needs(16 + n, 16 + n), n == 15 ? 0 : 1);
        }
    }

    private static void needsWhatHasNoValue() {
        check.sentence("what is never reached this way (because it .. needs something without a value) has no value");
        LazySeries x = new LazySeries();
        withoutValues(x, 0);
        for (int s = 1; s < 8; s++) {
            x.define(s, LazySeries.SCALE, s - 1, 1);
            check.due("at the end of a chain of " + s, coefficients(x, s), filled(-3));
            check.due("it does not need itself", x.needs(16 * s, 16 * s), 0);
        }
        for (int s = 0; s < 8; s++) {
            x = new LazySeries();
            x.define(s, LazySeries.DERIVATIVE, s, 0);
            check.due("all need coefficient 15, which has none", coefficients(x, s), filled(-3));
            check.due("0 needs 15", x.needs(16 * s, 16 * s + 15), 1);
            check.due("but not itself", x.needs(16 * s, 16 * s), 0);
        }
    }

    // Parts in which something is missing.

    /** Series 0 is 1 + x + x^2 + .. ; its derivative in 1 lacks coefficient 15; series 2 lacks all. */
    private static LazySeries withoutTheLastAndWithout() {
        LazySeries x = new LazySeries();
        repeated(x, 0, 1);
        x.define(1, LazySeries.DERIVATIVE, 0, 0);
        withoutValues(x, 2);
        return x;
    }

    private static void lastIsMissing(LazySeries x, int kind, int a, int b, int[] start) {
        x.define(3, kind, a, b);
        String call = "kind " + kind + " of " + a + " and " + b;
        for (int n = 0; n < start.length; n++) {
            check.due(call + " at " + n, x.coefficient(3, n), start[n]);
        }
        check.due(call + " up to 14", x.known(3), 15);
        check.due(call + " at 15", x.coefficient(3, 15), -3);
    }

    private static void allAreMissing(LazySeries x, int kind, int a, int b) {
        x.define(3, kind, a, b);
        check.due("kind " + kind + " of " + a + " and " + b, coefficients(x, 3), filled(-3));
    }
}
