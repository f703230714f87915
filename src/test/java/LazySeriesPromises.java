import java.math.BigInteger;

/** Worked examples, edges and wrong inputs for each promise, in the document's order. */
public final class LazySeriesPromises extends Examples {
    private static final int[] NUMBERS = {0, 1, 2, 96, 97, 98, 194, -1, -96, -97, -98, 12345, -12345, MIN, MAX};

    private static final Check check = new Check();

    public static void main(String[] args) {
        newObject();
        defineAnswersTheKindBefore();
        defineRefuses();
        refusedDefineChangesNothing();
        partsWithoutARole();
        kindOf();
        numbersAreReduced();
        plainKinds();
        derivativeAndIntegral();
        reciprocal();
        compose();
        selfReference();
        zeroFactorsStillNeed();
        redefinitionIsSeenByAll();
        coefficient();
        knownAndValued();
        order();
        agreeing();
        evaluate();
        sum();
        needsDirectly();
        needsOverOthers();
        needsWithoutValues();
        needsRefuses();
        questionsChangeNothing();
        check.finish();
    }

    // Promise 1.

    private static void newObject() {
        LazySeries x = new LazySeries();
        for (int s = 0; s < 8; s++) {
            check.due("new: kindOf " + s, x.kindOf(s), LazySeries.CONSTANT);
            check.due("new: known " + s, x.known(s), 16);
            check.due("new: valued " + s, x.valued(s), 16);
            check.due("new: order " + s, x.order(s), -2);
            check.due("new: agreeing with 7 - " + s, x.agreeing(s, 7 - s), 16);
            check.due("new: evaluate " + s, x.evaluate(s, 16, 5), 0);
            check.due("new: sum " + s, x.sum(s, 0, 15), 0);
            check.due("new: coefficients of " + s, coefficients(x, s), filled(0));
        }
        for (int place = 0; place < 128; place++) {
            check.due("new: needs " + place, x.needs(place, 127 - place) + x.needs(place, place), 0);
        }
        LazySeries other = new LazySeries();
        other.define(0, LazySeries.CONSTANT, 0, 5);
        check.due("one object's series are not another's", x.coefficient(0, 0), 0);
    }

    // Promise 2.

    private static void defineAnswersTheKindBefore() {
        for (int before = 0; before <= 9; before++) {
            for (int after = 0; after <= 9; after++) {
                LazySeries x = new LazySeries();
                check.due("the first define", x.define(7, before, 0, 7), LazySeries.CONSTANT);
                check.due("define over " + before, x.define(7, after, 7, 0), before);
                check.due("define over " + after, x.define(7, before, 1, 1), after);
                check.due("another series keeps its kind", x.define(6, after, 0, 0), LazySeries.CONSTANT);
            }
        }
    }

    private static void defineRefuses() {
        for (int bad : BAD_SERIES) {
            LazySeries x = new LazySeries();
            for (int kind = 0; kind <= 9; kind++) {
                boolean takesA = takesSeriesA(kind);
                boolean takesB = takesSeriesB(kind);
                String call = " of kind " + kind + " with " + bad;
                check.due("define s" + call, x.define(bad, kind, 0, 0), -1);
                check.due("define a" + call, Math.min(0, x.define(0, kind, bad, 0)), takesA ? -3 : 0);
                check.due("define b" + call, Math.min(0, x.define(0, kind, 7, bad)), takesB ? -4 : 0);
                check.due("define a and b" + call, Math.min(0, x.define(0, kind, bad, bad)), takesA ? -3 : 0);
            }
            check.due("s before all others", x.define(bad, 10, bad, bad), -1);
            check.due("kind before the parts", x.define(0, 10, bad, bad), -2);
            check.due("kind -1", x.define(0, -1, bad, bad), -2);
            check.due("kind MIN", x.define(0, MIN, 0, 0), -2);
            check.due("kind MAX", x.define(0, MAX, 0, 0), -2);
        }
    }

    private static void refusedDefineChangesNothing() {
        LazySeries x = withSomeSeries();
        x.define(4, LazySeries.PRODUCT, 0, 2);
        int[] before = state(x);
        for (int kind = LazySeries.SUM; kind <= LazySeries.COMPOSE; kind++) {
            check.due("refused for a", x.define(4, kind, 8, 1), -3);
        }
        check.due("refused for b of SUM", x.define(4, LazySeries.SUM, 1, 8), -4);
        check.due("refused for b of PRODUCT", x.define(4, LazySeries.PRODUCT, 1, -1), -4);
        check.due("refused for b of COMPOSE", x.define(4, LazySeries.COMPOSE, 1, 97), -4);
        check.due("refused for kind", x.define(4, 10, 1, 1), -2);
        check.due("refused for s", x.define(12, LazySeries.CONSTANT, 1, 1), -1);
        check.due("after refused calls", state(x), before);
        check.due("its needs stay, too", x.needs(16 * 4 + 3, 16 * 2 + 1), 1);
        // A part that had come in by a refused call would show when the definitions are next worked out.
        x.define(7, LazySeries.CONSTANT, 0, 0);
        check.due("after refused calls and a good one", state(x), before);
    }

    private static void partsWithoutARole() {
        for (int any : NUMBERS) {
            for (int other : BAD_SERIES) {
                LazySeries x = withSomeSeries();
                check.due("CONSTANT with any a", x.define(4, LazySeries.CONSTANT, other, 6), 0);
                check.due("VARIABLE with any parts", x.define(5, LazySeries.VARIABLE, any, other), 0);
                check.due("DERIVATIVE with any b", x.define(6, LazySeries.DERIVATIVE, 1, other), 0);
                check.due("RECIPROCAL with any b", x.define(7, LazySeries.RECIPROCAL, 2, any), 0);
                check.due("that CONSTANT", x.sum(4, 0, 15), 6);
                check.due("that VARIABLE", x.agreeing(5, 1), 16);
                check.due("that DERIVATIVE", x.evaluate(6, 15, 3), 1);
                check.due("that RECIPROCAL", x.evaluate(7, 16, 3), mod(1 - 2 * 3));
            }
        }
        LazySeries x = new LazySeries();
        for (int kind : new int[] {LazySeries.CONSTANT, LazySeries.VARIABLE}) {
            x.define(3, kind, 3, 3);
            check.due("a part without a role is not needed", x.needs(16 * 3, 16 * 3), 0);
        }
        x.define(3, LazySeries.DERIVATIVE, 4, 5);
        check.due("b of DERIVATIVE is not needed", x.needs(16 * 3 + 2, 16 * 5 + 3), 0);
        x.define(3, LazySeries.RECIPROCAL, 4, 5);
        check.due("b of RECIPROCAL is not needed", x.needs(16 * 3 + 2, 16 * 5 + 2), 0);
        x.define(3, LazySeries.SCALE, 4, 5);
        check.due("a number is not needed as a series", x.needs(16 * 3 + 2, 16 * 5 + 2), 0);
    }

    // Promise 3.

    private static void kindOf() {
        LazySeries x = new LazySeries();
        for (int s = 0; s < 8; s++) {
            for (int kind = 0; kind <= 9; kind++) {
                x.define(s, kind, s, s);
                check.due("kindOf " + s, x.kindOf(s), kind);
            }
            x.define(s, s + 1, 0, 0);
        }
        for (int s = 0; s < 8; s++) {
            check.due("kindOf " + s + " after all", x.kindOf(s), s + 1);
        }
        for (int bad : BAD_SERIES) {
            check.due("kindOf " + bad, x.kindOf(bad), -1);
        }
    }

    // The ten kinds, seen by coefficient (promise 4).

    private static void numbersAreReduced() {
        for (int number : NUMBERS) {
            LazySeries x = withSomeSeries();
            x.define(4, LazySeries.CONSTANT, 0, number);
            x.define(5, LazySeries.SCALE, 2, number);
            x.define(6, LazySeries.INTEGRAL, 1, number);
            x.define(7, LazySeries.SHIFT, 1, number);
            check.due("CONSTANT " + number, x.coefficient(4, 0), mod(number));
            check.due("SCALE " + number, x.coefficient(5, 3), mod(8L * mod(number)));
            check.due("INTEGRAL " + number, x.coefficient(6, 0), mod(number));
            check.due("SHIFT " + number, x.coefficient(7, 0), mod(number));
        }
    }

    private static void plainKinds() {
        LazySeries x = withSomeSeries();
        int[] exp = exponential();
        int[] twos = powersOf(2);
        int[] sums = new int[16];
        int[] products = new int[16];
        int[] shifted = new int[16];
        for (int n = 0; n < 16; n++) {
            sums[n] = mod(exp[n] + twos[n]);
            shifted[n] = n == 0 ? 41 : exp[n - 1];
            for (int i = 0; i <= n; i++) {
                products[n] = mod(products[n] + (long) exp[i] * twos[n - i]);
            }
        }
        int[] variable = filled(0);
        variable[1] = 1;
        int[] constant = filled(0);
        constant[0] = 13;
        x.define(4, LazySeries.SUM, 0, 2);
        x.define(5, LazySeries.PRODUCT, 0, 2);
        x.define(6, LazySeries.SHIFT, 0, 41);
        x.define(7, LazySeries.CONSTANT, 0, 13);
        check.due("exp", coefficients(x, 0), exp);
        check.due("VARIABLE", coefficients(x, 1), variable);
        check.due("powers of 2", coefficients(x, 2), twos);
        check.due("SUM", coefficients(x, 4), sums);
        check.due("PRODUCT", coefficients(x, 5), products);
        check.due("SHIFT", coefficients(x, 6), shifted);
        check.due("CONSTANT", coefficients(x, 7), constant);
        x.define(4, LazySeries.SUM, 2, 2);
        x.define(5, LazySeries.PRODUCT, 1, 1);
        x.define(6, LazySeries.SCALE, 2, 0);
        check.due("SUM of a series with itself", x.coefficient(4, 15), mod(1L << 16));
        check.due("PRODUCT of x with itself", x.order(5), 2);
        check.due("SCALE by 0", coefficients(x, 6), filled(0));
    }

    private static void derivativeAndIntegral() {
        LazySeries x = withSomeSeries();
        x.define(4, LazySeries.DERIVATIVE, 2, 0);
        x.define(5, LazySeries.INTEGRAL, 2, 50);
        x.define(6, LazySeries.DERIVATIVE, 4, 0);
        x.define(7, LazySeries.INTEGRAL, 4, 1);
        int[] twos = powersOf(2);
        for (int n = 0; n < 15; n++) {
            check.due("DERIVATIVE at " + n, x.coefficient(4, n), mod((n + 1L) * twos[n + 1]));
            check.due("INTEGRAL at " + (n + 1), x.coefficient(5, n + 1), divided(twos[n], n + 1));
        }
        check.due("DERIVATIVE at 15", x.coefficient(4, 15), -3);
        check.due("INTEGRAL at 0", x.coefficient(5, 0), 50);
        check.due("the second derivative at 13", x.coefficient(6, 13), mod(14L * 15L * twos[15]));
        check.due("the second derivative at 14", x.coefficient(6, 14), -3);
        check.due("the second derivative at 15", x.coefficient(6, 15), -3);
        check.due("the integral of the derivative", coefficients(x, 7), twos);
    }

    private static void reciprocal() {
        LazySeries x = withSomeSeries();
        x.define(4, LazySeries.RECIPROCAL, 2, 0);
        int[] linear = filled(0);
        linear[0] = 1;
        linear[1] = 95;
        check.due("RECIPROCAL of the powers of 2", coefficients(x, 4), linear);
        for (int first = 1; first < 97; first++) {
            x = withSomeSeries();
            x.define(3, LazySeries.INTEGRAL, 0, first);
            x.define(4, LazySeries.RECIPROCAL, 3, 0);
            x.define(5, LazySeries.PRODUCT, 4, 3);
            x.define(6, LazySeries.CONSTANT, 0, 1);
            check.due("1 / " + first, x.coefficient(4, 0), divided(1, first));
            check.due("a * (1 / a) with a[0] = " + first, x.agreeing(5, 6), 16);
        }
        x.define(4, LazySeries.RECIPROCAL, 1, 0);
        check.due("RECIPROCAL of a series with a[0] = 0", coefficients(x, 4), filled(-3));
        x.define(4, LazySeries.RECIPROCAL, 4, 0);
        check.due("RECIPROCAL of itself", coefficients(x, 4), filled(-3));
        // a[15] alone has no value, so r[15] alone has none.
        x.define(3, LazySeries.DERIVATIVE, 0, 0);
        x.define(4, LazySeries.RECIPROCAL, 3, 0);
        check.due("RECIPROCAL of a short series", x.known(4), 15);
        check.due("1 / exp at 2", x.coefficient(4, 2), divided(1, 2));
        check.due("1 / exp at 15", x.coefficient(4, 15), -3);
    }

    private static void compose() {
        LazySeries x = withSomeSeries();
        int[] exp = exponential();
        x.define(4, LazySeries.SCALE, 1, 3);
        x.define(5, LazySeries.COMPOSE, 0, 4);
        for (int n = 0; n < 16; n++) {
            check.due("exp(3 x) at " + n, x.coefficient(5, n), mod((long) exp[n] * powersOf(3)[n]));
        }
        // 1 / (1 - 2 (x + x^2)): each coefficient is twice the sum of the two before it.
        x.define(4, LazySeries.PRODUCT, 1, 1);
        x.define(6, LazySeries.SUM, 1, 4);
        x.define(5, LazySeries.COMPOSE, 2, 6);
        int before = 0;
        int here = 1;
        for (int n = 0; n < 16; n++) {
            check.due("1 / (1 - 2 x - 2 x^2) at " + n, x.coefficient(5, n), here);
            int next = mod(2L * (here + before));
            before = here;
            here = next;
        }
        x.define(5, LazySeries.COMPOSE, 1, 6);
        check.due("x of b is b", x.agreeing(5, 6), 16);
        x.define(5, LazySeries.COMPOSE, 0, 1);
        check.due("a of x is a", x.agreeing(5, 0), 16);
        x.define(5, LazySeries.COMPOSE, 0, 7);
        check.due("a of 0 is a[0]", x.agreeing(5, 7) + x.coefficient(5, 0) + x.sum(5, 0, 15), 2);
        x.define(5, LazySeries.COMPOSE, 1, 0);
        check.due("COMPOSE with b[0] = 1", coefficients(x, 5), filled(-3));
        x.define(7, LazySeries.CONSTANT, 0, 96);
        x.define(5, LazySeries.COMPOSE, 7, 7);
        check.due("COMPOSE of constants with b[0] = 96", coefficients(x, 5), filled(-3));
        x.define(7, LazySeries.CONSTANT, 0, 97);
        check.due("COMPOSE of constants with b[0] = 97, which is 0", coefficients(x, 5), filled(0));
        // The derivative of x^2 is 2 x, without its coefficient 15.
        x.define(6, LazySeries.DERIVATIVE, 4, 0);
        x.define(5, LazySeries.COMPOSE, 0, 6);
        check.due("COMPOSE needs all of b up to n", x.known(5), 15);
        check.due("exp(2 x) at 14", x.coefficient(5, 14), mod((long) exp[14] * powersOf(2)[14]));
        x.define(6, LazySeries.DERIVATIVE, 0, 0);
        x.define(5, LazySeries.COMPOSE, 6, 1);
        check.due("COMPOSE needs all of a up to n", x.known(5), 15);
        x.define(5, LazySeries.COMPOSE, 1, 6);
        check.due("COMPOSE with b[0] = 1 from a derivative", x.valued(5), 0);
    }

    // What has a value.

    private static void selfReference() {
        LazySeries x = new LazySeries();
        for (int kind : new int[] {2, 3, 4, 5, 7, 9}) {
            x.define(0, kind, 0, 0);
            check.due("kind " + kind + " of itself", coefficients(x, 0), filled(-3));
        }
        x.define(0, LazySeries.SHIFT, 0, 7);
        check.due("SHIFT of itself", coefficients(x, 0), filled(7));
        // Two series that need each other at the same coefficient, and a third that breaks the ring.
        x = new LazySeries();
        x.define(0, LazySeries.SUM, 1, 2);
        x.define(1, LazySeries.SCALE, 0, 5);
        check.due("a ring of two", x.valued(0) + x.valued(1), 0);
        x.define(1, LazySeries.SHIFT, 0, 5);
        x.define(2, LazySeries.SHIFT, 1, 3);
        int[] fibonacci = new int[16];
        fibonacci[0] = 8;
        fibonacci[1] = 13;
        for (int n = 2; n < 16; n++) {
            fibonacci[n] = mod(fibonacci[n - 1] + fibonacci[n - 2]);
        }
        check.due("Fibonacci numbers", coefficients(x, 0), fibonacci);
        // Catalan numbers by C = 1 / (1 - x C).
        x = new LazySeries();
        x.define(1, LazySeries.SCALE, 0, -1);
        x.define(2, LazySeries.SHIFT, 1, 1);
        x.define(0, LazySeries.RECIPROCAL, 2, 0);
        long catalan = 1;
        for (int n = 0; n < 16; n++) {
            check.due("Catalan number " + n, x.coefficient(0, n), mod(catalan));
            catalan = catalan * 2 * (2 * n + 1) / (n + 2);
        }
        // COMPOSE inside its own definition: T = x exp(T), whose T[n] is n^(n-1) / n!.
        x = new LazySeries();
        x.define(0, LazySeries.INTEGRAL, 0, 1);
        x.define(1, LazySeries.COMPOSE, 0, 2);
        x.define(2, LazySeries.SHIFT, 1, 0);
        check.due("T[0]", x.coefficient(2, 0), 0);
        for (int n = 1; n < 16; n++) {
            BigInteger trees = BigInteger.valueOf(n).pow(n - 1).mod(BigInteger.valueOf(97));
            check.due("T[" + n + "]", x.coefficient(2, n), mod((long) exponential()[n] * trees.intValue()));
        }
    }

    private static void zeroFactorsStillNeed() {
        LazySeries x = new LazySeries();
        x.define(1, LazySeries.VARIABLE, 0, 0);
        x.define(2, LazySeries.SUM, 2, 2);
        x.define(3, LazySeries.SCALE, 2, 0);
        check.due("0 times what has no value", coefficients(x, 3), filled(-3));
        x.define(3, LazySeries.PRODUCT, 0, 2);
        check.due("the series 0 times what has no value", coefficients(x, 3), filled(-3));
        x.define(3, LazySeries.PRODUCT, 3, 1);
        check.due("S = S * x", coefficients(x, 3), filled(-3));
        x.define(3, LazySeries.COMPOSE, 2, 0);
        check.due("without a value, composed with 0", coefficients(x, 3), filled(-3));
        x.define(3, LazySeries.COMPOSE, 0, 2);
        check.due("0, composed with what has no value", coefficients(x, 3), filled(-3));
        x.define(4, LazySeries.DERIVATIVE, 1, 0);
        x.define(5, LazySeries.PRODUCT, 1, 4);
        check.due("x * (x)' needs coefficient 15 though it is met by 0", x.coefficient(5, 15), -3);
        check.due("x * (x)' before it", x.known(5), 15);
    }

    private static void redefinitionIsSeenByAll() {
        LazySeries x = new LazySeries();
        for (int s = 6; s >= 0; s--) {
            x.define(s, LazySeries.DERIVATIVE, s + 1, 0);
        }
        x.define(7, LazySeries.INTEGRAL, 7, 1);
        check.due("exp after seven derivatives", x.agreeing(0, 7), 9);
        check.due("how far they are known", x.known(0), 9);
        x.define(7, LazySeries.VARIABLE, 0, 0);
        check.due("x after one derivative", x.coefficient(6, 0), 1);
        check.due("x after two derivatives", x.order(5), -2);
        x.define(7, LazySeries.SUM, 7, 7);
        check.due("values go when what they need goes", x.valued(0) + x.valued(6), 0);
        x.define(7, LazySeries.CONSTANT, 0, 1);
        check.due("and come again", x.valued(0), 9);
    }

    // Promise 4.

    private static void coefficient() {
        LazySeries x = withSomeSeries();
        x.define(7, LazySeries.SUM, 7, 7);
        for (int bad : BAD_SERIES) {
            check.due("coefficient of series " + bad, x.coefficient(bad, 0), -1);
            check.due("the series before n", x.coefficient(bad, 16), -1);
        }
        for (int n : new int[] {-1, 16, 17, 128, MIN, MAX}) {
            check.due("coefficient " + n, x.coefficient(0, n), -2);
            check.due("n before the value", x.coefficient(7, n), -2);
        }
        check.due("the first one", x.coefficient(0, 0), 1);
        check.due("the last one", x.coefficient(2, 15), mod(1 << 15));
        check.due("one without a value", x.coefficient(7, 0), -3);
    }

    // Promises 5 and 6.

    private static void knownAndValued() {
        LazySeries x = withSomeSeries();
        x.define(4, LazySeries.SUM, 4, 4);
        x.define(5, LazySeries.SHIFT, 4, 3);
        x.define(6, LazySeries.DERIVATIVE, 0, 0);
        x.define(7, LazySeries.DERIVATIVE, 5, 0);
        int[] known = {16, 16, 16, 16, 0, 1, 15, 0};
        int[] valued = {16, 16, 16, 16, 0, 1, 15, 0};
        for (int s = 0; s < 8; s++) {
            check.due("known " + s, x.known(s), known[s]);
            check.due("valued " + s, x.valued(s), valued[s]);
        }
        for (int bad : BAD_SERIES) {
            check.due("known of series " + bad, x.known(bad), -1);
            check.due("valued of series " + bad, x.valued(bad), -1);
        }
        x.define(4, LazySeries.DERIVATIVE, 4, 0);
        x.define(5, LazySeries.SHIFT, 4, 3);
        x.define(6, LazySeries.SHIFT, 5, 3);
        check.due("known after two shifts", x.known(6), 2);
        check.due("valued after two shifts", x.valued(6), 2);
    }

    // Promise 7.

    private static void order() {
        LazySeries x = new LazySeries();
        // Series 0 .. 6 are x^0, x^1, x^2, x^3, x^4, x^8, x^12; series 7 is the product of two of them.
        x.define(0, LazySeries.CONSTANT, 0, 1);
        for (int s = 1; s <= 4; s++) {
            x.define(s, LazySeries.SHIFT, s - 1, 0);
        }
        x.define(5, LazySeries.PRODUCT, 4, 4);
        x.define(6, LazySeries.PRODUCT, 4, 5);
        int[] fourths = {0, 4, 5, 6};
        for (int n = 0; n < 16; n++) {
            x.define(7, LazySeries.PRODUCT, n % 4, fourths[n / 4]);
            check.due("order of x^" + n, x.order(7), n);
        }
        x.define(7, LazySeries.PRODUCT, 4, 6);
        check.due("order of x^16, of which nothing is left", x.order(7), -2);
        x.define(7, LazySeries.SUM, 2, 5);
        check.due("order of x^2 + x^8", x.order(7), 2);

        x = new LazySeries();
        check.due("order of 0", x.order(0), -2);
        x.define(0, LazySeries.SUM, 0, 0);
        check.due("order without values", x.order(0), -2);
        x.define(1, LazySeries.SHIFT, 0, 0);
        check.due("order of 0 and then no values", x.order(1), -2);
        x.define(1, LazySeries.SHIFT, 0, 5);
        check.due("order of 5 and then no values", x.order(1), 0);
        x.define(2, LazySeries.SHIFT, 1, 97);
        check.due("order of 0, 5 and then no values", x.order(2), 1);
        for (int bad : BAD_SERIES) {
            check.due("order of series " + bad, x.order(bad), -1);
        }
    }

    // Promise 8.

    private static void agreeing() {
        LazySeries x = withSomeSeries();
        x.define(4, LazySeries.DERIVATIVE, 0, 0);
        x.define(5, LazySeries.SUM, 5, 5);
        x.define(6, LazySeries.SHIFT, 5, 1);
        x.define(7, LazySeries.SUM, 1, 0);
        due2("exp and exp", x, 0, 0, 16);
        due2("exp and x", x, 0, 1, 0);
        due2("exp and the powers of 2", x, 0, 2, 1);
        due2("exp and its derivative", x, 0, 4, 15);
        due2("a derivative and itself", x, 4, 4, 15);
        due2("exp and what has no values", x, 0, 5, 0);
        due2("no values on both sides", x, 5, 5, 0);
        due2("x, which begins with 0, and no values", x, 1, 5, 0);
        due2("exp and 1 and then no values", x, 0, 6, 1);
        due2("exp + x and the powers of 2", x, 7, 2, 2);
        for (int bad : BAD_SERIES) {
            due2("agreeing with series " + bad, x, 0, bad, -1);
            due2("agreeing of series " + bad + " with itself", x, bad, bad, -1);
        }
    }

    private static void due2(String call, LazySeries x, int s, int t, int want) {
        check.due(call, x.agreeing(s, t), want);
        check.due(call + ", turned round", x.agreeing(t, s), want);
    }

    // Promise 9.

    private static void evaluate() {
        for (int point : NUMBERS) {
            LazySeries x = withSomeSeries();
            int[] exp = exponential();
            BigInteger total = BigInteger.ZERO;
            for (int terms = 0; terms <= 16; terms++) {
                String call = "evaluate exp, " + terms + " terms, at " + point;
                check.due(call, x.evaluate(0, terms, point), total.mod(BigInteger.valueOf(97)).intValue());
                if (terms < 16) {
                    total = total.add(BigInteger.valueOf(point).pow(terms).multiply(BigInteger.valueOf(exp[terms])));
                }
            }
        }
        LazySeries x = withSomeSeries();
        x.define(4, LazySeries.DERIVATIVE, 1, 0);
        x.define(5, LazySeries.SUM, 5, 5);
        check.due("x at 0", x.evaluate(1, 16, 0), 0);
        check.due("exp at 0, where x^0 is 1", x.evaluate(0, 16, 0), 1);
        check.due("all terms that have values", x.evaluate(4, 15, 9), 1);
        check.due("one term too many", x.evaluate(4, 16, 9), -3);
        check.due("one term too many, at 0", x.evaluate(4, 16, 0), -3);
        check.due("no term of a series without values", x.evaluate(5, 0, 9), 0);
        check.due("one term of a series without values", x.evaluate(5, 1, 9), -3);
        for (int terms : new int[] {-1, 17, 18, MIN, MAX}) {
            check.due("evaluate " + terms + " terms", x.evaluate(0, terms, 1), -2);
            check.due("terms before values", x.evaluate(5, terms, 1), -2);
        }
        for (int bad : BAD_SERIES) {
            check.due("evaluate series " + bad, x.evaluate(bad, 1, 1), -1);
            check.due("evaluate no term of series " + bad, x.evaluate(bad, 0, 1), -1);
            check.due("the series before terms", x.evaluate(bad, 17, 1), -1);
        }
    }

    // Promise 10.

    private static void sum() {
        LazySeries x = withSomeSeries();
        int[] twos = powersOf(2);
        for (int i = 0; i < 16; i++) {
            long total = 0;
            for (int j = i; j < 16; j++) {
                total += twos[j];
                check.due("sum " + i + " .. " + j, x.sum(2, i, j), mod(total));
            }
        }
        x.define(4, LazySeries.DERIVATIVE, 2, 0);
        x.define(5, LazySeries.SUM, 5, 5);
        check.due("sum up to the last value", x.sum(4, 14, 14), mod(15L * twos[15]));
        check.due("sum beyond it", x.sum(4, 14, 15), -3);
        check.due("sum of none but a missing one", x.sum(4, 15, 15), -3);
        check.due("sum without values", x.sum(5, 0, 0), -3);
        int[][] bad = {{-1, 0}, {-1, -1}, {0, -1}, {1, 0}, {15, 14}, {0, 16}, {15, 16}, {16, 16}, {16, 15}, {MIN, MAX}, {MAX, MIN}, {0, MAX}, {MIN, 15}};
        for (int[] range : bad) {
            check.due("sum " + range[0] + " .. " + range[1], x.sum(2, range[0], range[1]), -2);
            check.due("the range before values", x.sum(5, range[0], range[1]), -2);
            check.due("the series before the range", x.sum(8, range[0], range[1]), -1);
        }
        for (int series : BAD_SERIES) {
            check.due("sum of series " + series, x.sum(series, 0, 15), -1);
        }
    }

    // Promise 11.

    /** Whether S[n] of this kind needs m of its part a; the parts are plain, so that nothing comes in over others. */
    private static boolean needsOfFirst(int kind, int n, int m) {
        switch (kind) {
            case LazySeries.SUM:
            case LazySeries.SCALE:
                return m == n;
            case LazySeries.PRODUCT:
            case LazySeries.RECIPROCAL:
            case LazySeries.COMPOSE:
                return m <= n;
            case LazySeries.DERIVATIVE:
                return m == n + 1;
            case LazySeries.INTEGRAL:
            case LazySeries.SHIFT:
                return m == n - 1;
            default:
                return false;
        }
    }

    private static void needsDirectly() {
        for (int kind = 0; kind <= 9; kind++) {
            boolean takesB = takesSeriesB(kind);
            for (int n = 0; n < 16; n++) {
                LazySeries x = new LazySeries();
                x.define(3, kind, 5, 6);
                for (int m = 0; m < 16; m++) {
                    String call = "kind " + kind + ": S[" + n + "] needs " + m;
                    boolean first = needsOfFirst(kind, n, m);
                    boolean own = kind == LazySeries.RECIPROCAL && m < n;
                    check.due(call + " of a", x.needs(16 * 3 + n, 16 * 5 + m), first ? 1 : 0);
                    check.due(call + " of b", x.needs(16 * 3 + n, 16 * 6 + m), first && takesB ? 1 : 0);
                    check.due(call + " of S", x.needs(16 * 3 + n, 16 * 3 + m), own ? 1 : 0);
                    check.due(call + " of another", x.needs(16 * 3 + n, 16 * 4 + m), 0);
                    check.due(call + " of a, turned round", x.needs(16 * 5 + m, 16 * 3 + n), 0);
                }
            }
        }
    }

    private static void needsOverOthers() {
        LazySeries x = new LazySeries();
        for (int s = 0; s < 7; s++) {
            x.define(s, LazySeries.SHIFT, s + 1, 0);
        }
        check.due("over seven series", x.needs(15, 16 * 7 + 8), 1);
        check.due("over seven series, another coefficient", x.needs(15, 16 * 7 + 7), 0);
        check.due("on the way", x.needs(15, 16 * 3 + 12), 1);
        check.due("where it starts is no need", x.needs(15, 15), 0);
        x.define(7, LazySeries.SHIFT, 0, 0);
        check.due("round the ring to itself, eight lower", x.needs(15, 7), 1);
        check.due("round the ring, not to the same one", x.needs(15, 15), 0);
        x.define(7, LazySeries.DERIVATIVE, 0, 0);
        check.due("round the ring, still not the same one", x.needs(15, 15), 0);
        check.due("round the ring, six lower", x.needs(15, 9), 1);
        // Up by seven derivatives and round by one product, which needs all that lies below.
        x = new LazySeries();
        for (int s = 0; s < 7; s++) {
            x.define(s, LazySeries.DERIVATIVE, s + 1, 0);
        }
        x.define(7, LazySeries.PRODUCT, 0, 0);
        check.due("from the lowest to the highest", x.needs(0, 127), 1);
        check.due("to the last of a derivative", x.needs(0, 15), 1);
        check.due("the last of a derivative needs nothing", x.needs(15, 127) + x.needs(15, 0) + x.needs(15, 15), 0);
        check.due("the last but one needs the top", x.needs(14, 31), 1);
        check.due("the last but one does not come round", x.needs(14, 127), 0);
    }

    private static void needsWithoutValues() {
        LazySeries x = new LazySeries();
        x.define(0, LazySeries.SUM, 0, 1);
        check.due("a ring of one", x.needs(4, 4), 1);
        check.due("beside the ring", x.needs(4, 16 + 4), 1);
        check.due("not another coefficient", x.needs(4, 5), 0);
        x.define(2, LazySeries.RECIPROCAL, 1, 0);
        check.due("1 / 0 needs what any reciprocal needs", x.needs(32 + 4, 32 + 3), 1);
        check.due("1 / 0 needs a", x.needs(32 + 4, 16), 1);
        check.due("1 / 0 does not need itself", x.needs(32 + 4, 32 + 4), 0);
        x.define(3, LazySeries.CONSTANT, 0, 1);
        x.define(4, LazySeries.COMPOSE, 1, 3);
        check.due("COMPOSE with b[0] = 1 needs b", x.needs(64 + 4, 48 + 4), 1);
        check.due("COMPOSE with b[0] = 1 needs a", x.needs(64 + 4, 16 + 4), 1);
        x.define(5, LazySeries.SCALE, 4, 0);
        check.due("over what has no value", x.needs(80 + 4, 16 + 2), 1);
        x.define(1, LazySeries.VARIABLE, 0, 0);
        x.define(6, LazySeries.PRODUCT, 1, 6);
        check.due("x * S needs S[n]", x.needs(96 + 4, 96 + 4), 1);
    }

    private static void needsRefuses() {
        LazySeries x = new LazySeries();
        for (int bad : new int[] {-1, 128, 129, MIN, MAX}) {
            check.due("needs from " + bad, x.needs(bad, 0), -1);
            check.due("needs of " + bad, x.needs(0, bad), -1);
            check.due("needs of both", x.needs(bad, bad), -1);
        }
        check.due("the greatest places", x.needs(127, 127), 0);
        check.due("the least places", x.needs(0, 0), 0);
        x.define(0, LazySeries.SUM, 7, 0);
        check.due("the least place needs itself", x.needs(0, 0), 1);
        x.define(7, LazySeries.SCALE, 0, 1);
        check.due("the greatest place needs itself", x.needs(127, 127), 1);
        check.due("the greatest place and the least", x.needs(127, 0) + x.needs(0, 127), 0);
    }

    // "No question changes anything."

    private static void questionsChangeNothing() {
        LazySeries x = withSomeSeries();
        x.define(4, LazySeries.RECIPROCAL, 0, 0);
        x.define(5, LazySeries.COMPOSE, 4, 1);
        x.define(6, LazySeries.DERIVATIVE, 5, 0);
        x.define(7, LazySeries.SUM, 7, 0);
        int[] before = state(x);
        int needed = x.needs(16 * 6 + 3, 2);
        for (int s = -1; s <= 8; s++) {
            x.kindOf(s);
            x.known(s);
            x.valued(s);
            x.order(s);
            x.agreeing(s, 7 - s);
            x.evaluate(s, 16, s);
            x.sum(s, s, 15);
            x.needs(20 * s, 127 - s);
        }
        check.due("after every question", state(x), before);
        check.due("needs after every question", x.needs(16 * 6 + 3, 2), needed);
        x.define(3, LazySeries.SCALE, 2, 2);
        check.due("worked out again after every question", coefficients(x, 5), coefficients(x, 4));
    }
}
