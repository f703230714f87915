import java.util.function.Consumer;
import java.util.function.ToIntFunction;

/** A test for each sentence about the calls, of the promises and of "Terms", that names a boundary case. */
public final class LazySeriesCallBoundaries extends Examples {
    private static final int CALLS_OF_AN_OBJECT = 512;
    private static final int[] BAD_KINDS = {-1, 10, 11, MIN, MAX};
    private static final int[] BAD_COEFFICIENTS = {-1, 16, 17, 128, MIN, MAX};
    private static final int[] BAD_TERMS = {-1, 17, 18, MIN, MAX};
    private static final int[] BAD_PLACES = {-1, 128, 129, MIN, MAX};
    private static final int[][] BAD_RANGES = {
        {-1, 0}, {-1, -1}, {-1, 15}, {0, -1}, {1, 0}, {8, 7}, {15, 14}, {15, 0}, {0, 16}, {15, 16}, {16, 16}, {16, 15},
        {MIN, MIN}, {MIN, 15}, {0, MIN}, {MAX, MAX}, {0, MAX}, {MAX, 15}, {MIN, MAX}, {MAX, MIN},
    };
    private static final int[] ANY = {0, 1, 7, 8, -1, 9, 15, 16, 96, 97, -97, 127, 128, MIN, MIN + 1, MAX, MAX - 1};

    private static final Check check = new Check();

    public static void main(String[] args) {
        newObject();
        goodSeriesNumbers();
        define();
        kindOf();
        coefficient();
        known();
        valued();
        order();
        agreeing();
        evaluate();
        sum();
        needs();
        testsInTheOrderNamed();
        questionsChangeNothing();
        refusedCallsChangeNothing();
        atMost512Calls();
        anyArguments();
        check.finish();
    }

    // Promise 1.

    private static void newObject() {
        check.sentence("LazySeries(): Everything as said above");
        LazySeries used = withSomeSeries();
        LazySeries x = new LazySeries();
        check.due("a new object beside a used one", state(x), new int[136]);
        for (int s = 0; s < 8; s++) {
            check.due("known " + s, x.known(s), 16);
            check.due("valued " + s, x.valued(s), 16);
            check.due("order " + s, x.order(s), -2);
            check.due("agreeing " + s, x.agreeing(s, 7 - s), 16);
            check.due("evaluate " + s, x.evaluate(s, 16, 1), 0);
            check.due("sum " + s, x.sum(s, 0, 15), 0);
        }
        check.due("the used one stays as it was", coefficients(used, 0), exponential());
    }

    // "a series number is good if it is 0 .. 7"

    private static void goodSeriesNumbers() {
        check.sentence("a series number is good if it is 0 .. 7");
        for (int s = -2; s <= 9; s++) {
            LazySeries x = new LazySeries();
            boolean good = s >= 0 && s <= 7;
            check.due("kindOf " + s, x.kindOf(s), good ? 0 : -1);
            check.due("coefficient " + s, x.coefficient(s, 0), good ? 0 : -1);
            check.due("known " + s, x.known(s), good ? 16 : -1);
            check.due("valued " + s, x.valued(s), good ? 16 : -1);
            check.due("order " + s, x.order(s), good ? -2 : -1);
            check.due("agreeing " + s + " and 0", x.agreeing(s, 0), good ? 16 : -1);
            check.due("agreeing 7 and " + s, x.agreeing(7, s), good ? 16 : -1);
            check.due("evaluate " + s, x.evaluate(s, 16, 1), good ? 0 : -1);
            check.due("sum " + s, x.sum(s, 0, 15), good ? 0 : -1);
            check.due("define " + s, x.define(s, LazySeries.VARIABLE, 0, 0), good ? 0 : -1);
            check.due("define with a = " + s, x.define(0, LazySeries.SUM, s, 7), good ? s == 0 ? 1 : 0 : -3);
            check.due("define with b = " + s, x.define(7, LazySeries.SUM, 0, s), good ? s == 7 ? 1 : 0 : -4);
        }
    }

    // Promise 2.

    private static void define() {
        check.sentence("define: -1 if s is not good");
        for (int bad : BAD_SERIES) {
            LazySeries x = new LazySeries();
            for (int kind = 0; kind <= 9; kind++) {
                check.due("s = " + bad, x.define(bad, kind, 0, 0), -1);
            }
        }
        check.sentence("define: -2 if kind is not in 0 .. 9");
        for (int bad : BAD_KINDS) {
            LazySeries x = new LazySeries();
            for (int s = 0; s < 8; s++) {
                check.due("kind = " + bad, x.define(s, bad, 0, 0), -2);
            }
        }
        defineWithA();
        defineWithB();
        defineAnswersTheKindBefore();
        partsWithoutARole();
    }

    private static void defineWithA() {
        check.sentence("define: -3 if a is meant as a series for this kind (all but CONSTANT and VARIABLE) and is not good");
        for (int kind = 0; kind <= 9; kind++) {
            for (int a : ANY) {
                LazySeries x = new LazySeries();
                boolean refused = takesSeriesA(kind) && (a < 0 || a > 7);
                check.due("kind " + kind + ", a = " + a, x.define(5, kind, a, 2), refused ? -3 : 0);
                check.due("its kind", x.kindOf(5), refused ? 0 : kind);
            }
        }
    }

    private static void defineWithB() {
        check.sentence("define: -4 if b is meant as a series (SUM, PRODUCT, COMPOSE) and is not good");
        for (int kind = 0; kind <= 9; kind++) {
            for (int b : ANY) {
                LazySeries x = new LazySeries();
                boolean refused = takesSeriesB(kind) && (b < 0 || b > 7);
                check.due("kind " + kind + ", b = " + b, x.define(5, kind, 2, b), refused ? -4 : 0);
                check.due("its kind", x.kindOf(5), refused ? 0 : kind);
            }
        }
    }

    private static void defineAnswersTheKindBefore() {
        check.sentence("define: otherwise answers the kind before");
        for (int s = 0; s < 8; s++) {
            LazySeries x = new LazySeries();
            int before = 0;
            for (int kind : new int[] {9, 9, 0, 0, 1, 8, 2, 7, 3, 6, 4, 5, 0, 9}) {
                check.due("series " + s + " becomes " + kind, x.define(s, kind, 0, 7), before);
                check.due("refused", x.define(s, 10, 0, 7), -2);
                before = kind;
            }
            for (int t = 0; t < 8; t++) {
                check.due("another series", x.define(t, LazySeries.VARIABLE, 0, 0), t == s ? 9 : 0);
            }
        }
    }

    private static void partsWithoutARole() {
        check.sentence("define: Parts that play no role may be any int");
        for (int any : ANY) {
            LazySeries x = withSomeSeries();
            check.due("CONSTANT, a = " + any, x.define(4, LazySeries.CONSTANT, any, 6), 0);
            check.due("VARIABLE, a and b = " + any, x.define(5, LazySeries.VARIABLE, any, any), 0);
            check.due("DERIVATIVE, b = " + any, x.define(6, LazySeries.DERIVATIVE, 2, any), 0);
            check.due("RECIPROCAL, b = " + any, x.define(7, LazySeries.RECIPROCAL, 2, any), 0);
            check.due("CONSTANT 6", coefficients(x, 4), beginning(6, 0));
            check.due("VARIABLE", coefficients(x, 5), beginning(0, 1, 0));
            check.due("RECIPROCAL", coefficients(x, 7), beginning(1, 95, 0));
            for (int n = 0; n < 16; n++) {
                check.due("DERIVATIVE", x.coefficient(6, n), n == 15 ? -3 : mod((n + 1) * (1L << (n + 1))));
                check.due("they are not needed", x.needs(64 + n, n) + x.needs(80 + n, n) + x.needs(96 + n, 16 + n) + x.needs(112 + n, n), 0);
            }
        }
        check.sentence("define: numbers may be any int");
        for (int any : ANY) {
            for (int kind : new int[] {LazySeries.CONSTANT, LazySeries.SCALE, LazySeries.INTEGRAL, LazySeries.SHIFT}) {
                LazySeries x = new LazySeries();
                x.define(0, LazySeries.CONSTANT, 0, 1);
                check.due("kind " + kind + ", number " + any, x.define(1, kind, 0, any), 0);
                check.due("its first coefficient", x.coefficient(1, 0), mod(any));
            }
        }
    }

    // Promises 3 and 4.

    private static void kindOf() {
        check.sentence("kindOf: -1 if s is not good");
        LazySeries x = new LazySeries();
        x.define(0, LazySeries.VARIABLE, 0, 0);
        x.define(7, LazySeries.COMPOSE, 0, 0);
        check.due("the least", x.kindOf(0), LazySeries.VARIABLE);
        check.due("the greatest", x.kindOf(7), LazySeries.COMPOSE);
        for (int bad : BAD_SERIES) {
            check.due("kindOf " + bad, x.kindOf(bad), -1);
        }
    }

    private static void coefficient() {
        check.sentence("coefficient: -1 if s is not good");
        LazySeries x = withoutValuesIn7();
        for (int bad : BAD_SERIES) {
            check.due("series " + bad, x.coefficient(bad, 0), -1);
        }
        check.sentence("coefficient: -2 if n is not in 0 .. 15");
        for (int bad : BAD_COEFFICIENTS) {
            check.due("n = " + bad, x.coefficient(0, bad), -2);
        }
        check.due("n = 0", x.coefficient(2, 0), 1);
        check.due("n = 15", x.coefficient(2, 15), mod(1 << 15));
        check.sentence("coefficient: -3 if it has no value");
        check.due("all of series 7", coefficients(x, 7), filled(-3));
        check.due("a value that is 0", x.coefficient(1, 0), 0);
    }

    /** exp in 0, x in 1, the powers of 2 in 2, the powers of 2 but from 2 on in 3; 7 has no values. */
    private static LazySeries withoutValuesIn7() {
        LazySeries x = withSomeSeries();
        withoutValues(x, 7);
        return x;
    }

    // Promises 5 and 6.

    private static void known() {
        check.sentence("known: The greatest k in 0 .. 16 such that the coefficients 0 .. k-1 of s all have values");
        howManyHaveValues(LazySeries::known);
        check.sentence("known: -1 if s is not good");
        minusOneForBadSeries(LazySeries::known);
    }

    private static void valued() {
        check.sentence("valued: How many of the 16 coefficients of s have values");
        howManyHaveValues(LazySeries::valued);
        check.sentence("valued: -1 if s is not good");
        minusOneForBadSeries(LazySeries::valued);
    }

    private interface OfSeries {
        int ask(LazySeries x, int s);
    }

    /**
     * By the rules values stand in front and what lacks them behind, so known and valued go together. Each part moves
     * the end of the values by one at most, so an end at 8 would need nine series from it to 0 or 16: no series has it.
     */
    private static void howManyHaveValues(OfSeries question) {
        LazySeries x = new LazySeries();
        withoutValues(x, 0);
        check.due("none", question.ask(x, 0), 0);
        for (int s = 1; s < 8; s++) {
            // Values that are 0 count as well.
            x.define(s, LazySeries.SHIFT, s - 1, s % 3);
            check.due("the first " + s, question.ask(x, s), s);
        }
        x.define(0, LazySeries.CONSTANT, 0, 0);
        check.due("all", question.ask(x, 0), 16);
        for (int s = 1; s < 8; s++) {
            x.define(s, LazySeries.DERIVATIVE, s - 1, 0);
            check.due("all but the last " + s, question.ask(x, s), 16 - s);
        }
    }

    private static void minusOneForBadSeries(OfSeries question) {
        LazySeries x = new LazySeries();
        for (int bad : BAD_SERIES) {
            check.due("series " + bad, question.ask(x, bad), -1);
        }
    }

    // Promise 7.

    private static void order() {
        check.sentence("order: The least n such that coefficient n of s has a value that is not 0 and all before it have the value 0");
        LazySeries x = powersUpTo15();
        int[] orders = {0, 1, 2, 4, 8, 12, 14, 15};
        for (int s = 0; s < 8; s++) {
            check.due("x^" + orders[s], x.order(s), orders[s]);
        }
        x.define(0, LazySeries.CONSTANT, 0, 96);
        check.due("96", x.order(0), 0);
        x.define(0, LazySeries.SUM, 7, 1);
        check.due("x + x^15", x.order(0), 1);
        withoutValues(x, 0);
        x.define(1, LazySeries.SHIFT, 0, 1);
        check.due("1 and then no values", x.order(1), 0);
        x.define(2, LazySeries.SHIFT, 1, 0);
        check.due("0, 1 and then no values", x.order(2), 1);
        x.define(2, LazySeries.SHIFT, 1, 97);
        check.due("97, 1 and then no values", x.order(2), 1);

        check.sentence("order: -1 if s is not good");
        minusOneForBadSeries(LazySeries::order);

        check.sentence("order: -2 if there is none");
        x = powersUpTo15();
        x.define(0, LazySeries.PRODUCT, 7, 1);
        check.due("x^16, of which nothing is left", x.order(0), -2);
        x.define(0, LazySeries.CONSTANT, 0, 97);
        check.due("97, which is 0", x.order(0), -2);
        x.define(2, LazySeries.DERIVATIVE, 0, 0);
        check.due("0 up to 14, and at 15 no value", x.order(2), -2);
        withoutValues(x, 0);
        check.due("no values", x.order(0), -2);
        x.define(1, LazySeries.SHIFT, 0, 0);
        check.due("0 and then no values", x.order(1), -2);
    }

    /** 1, x, x^2, x^4, x^8, x^12, x^14 and x^15. */
    private static LazySeries powersUpTo15() {
        LazySeries x = new LazySeries();
        x.define(0, LazySeries.CONSTANT, 0, 1);
        x.define(1, LazySeries.VARIABLE, 0, 0);
        x.define(2, LazySeries.PRODUCT, 1, 1);
        x.define(3, LazySeries.PRODUCT, 2, 2);
        x.define(4, LazySeries.PRODUCT, 3, 3);
        x.define(5, LazySeries.PRODUCT, 3, 4);
        x.define(6, LazySeries.PRODUCT, 2, 5);
        x.define(7, LazySeries.PRODUCT, 1, 6);
        return x;
    }

    // Promise 8.

    private static void agreeing() {
        check.sentence("agreeing: The greatest k in 0 .. 16 such that the coefficients 0 .. k-1 of s and of t all have values and are the same");
        LazySeries x = powersUpTo15();
        int[] orders = {0, 1, 2, 4, 8, 12, 14, 15};
        for (int s = 0; s < 8; s++) {
            check.due("with itself", x.agreeing(s, s), 16);
            for (int t = 0; t < s; t++) {
                agree(x, s, t, orders[t]);
            }
        }
        x.define(0, LazySeries.CONSTANT, 0, 97);
        agree(x, 0, 7, 15);
        x.define(7, LazySeries.PRODUCT, 4, 4);
        agree(x, 0, 7, 16);
        x.define(6, LazySeries.DERIVATIVE, 0, 0);
        agree(x, 0, 6, 15);
        check.due("neither has 15", x.agreeing(6, 6), 15);
        withoutValues(x, 5);
        agree(x, 0, 5, 0);
        check.due("neither has any", x.agreeing(5, 5), 0);
        x.define(4, LazySeries.SHIFT, 5, 0);
        agree(x, 0, 4, 1);
        agree(x, 4, 5, 0);
        x.define(4, LazySeries.SHIFT, 5, 1);
        agree(x, 0, 4, 0);

        check.sentence("agreeing: -1 if s or t is not good");
        for (int bad : BAD_SERIES) {
            agree(x, 0, bad, -1);
            agree(x, 7, bad, -1);
            agree(x, 5, bad, -1);
            check.due("both", x.agreeing(bad, bad), -1);
        }
    }

    private static void agree(LazySeries x, int s, int t, int want) {
        check.due("agreeing(" + s + ", " + t + ")", x.agreeing(s, t), want);
        check.due("agreeing(" + t + ", " + s + ")", x.agreeing(t, s), want);
    }

    // Promise 9.

    private static void evaluate() {
        check.sentence("evaluate: The sum of coefficient n times x^n over n = 0 .. terms-1, modulo 97 (0 .. 96; x may be any int)");
        for (int any : ANY) {
            LazySeries x = withoutValuesIn7();
            int power = 1;
            int total = 0;
            for (int terms = 0; terms <= 16; terms++) {
                check.due(terms + " terms at " + any, x.evaluate(2, terms, any), total);
                total = mod(total + (long) power);
                power = mod(power * 2L * mod(any));
            }
            check.due("x at " + any, x.evaluate(1, 16, any), mod(any));
            check.due("no term at " + any, x.evaluate(0, 0, any), 0);
            check.due("one term at " + any, x.evaluate(0, 1, any), 1);
        }
        LazySeries x = new LazySeries();
        repeated(x, 0, 96);
        check.due("16 times 96", x.evaluate(0, 16, 1), mod(-16));
        check.due("96 - 96 + ..", x.evaluate(0, 16, -1), 0);
        check.due("96 - 96 + .. + 96", x.evaluate(0, 15, -1), 96);
        check.due("96 times 0^0", x.evaluate(0, 16, 0), 96);
        check.due("96 times 97^0", x.evaluate(0, 16, 97), 96);

        x = withoutValuesIn7();
        check.sentence("evaluate: -1 if s is not good");
        for (int bad : BAD_SERIES) {
            check.due("series " + bad, x.evaluate(bad, 16, 1), -1);
            check.due("no term of series " + bad, x.evaluate(bad, 0, 1), -1);
        }
        check.sentence("evaluate: -2 if terms is not in 0 .. 16");
        for (int bad : BAD_TERMS) {
            check.due(bad + " terms", x.evaluate(0, bad, 1), -2);
        }
        check.sentence("evaluate: -3 if one of these coefficients has no value");
        x.define(6, LazySeries.DERIVATIVE, 1, 0);
        check.due("15 of 15", x.evaluate(6, 15, 2), 1);
        check.due("16 of 15", x.evaluate(6, 16, 2), -3);
        check.due("16 of 15, though x^15 is 0", x.evaluate(6, 16, 0), -3);
        check.due("0 of none", x.evaluate(7, 0, 2), 0);
        check.due("1 of none", x.evaluate(7, 1, 2), -3);
        check.due("16 of none", x.evaluate(7, 16, 2), -3);
        x.define(6, LazySeries.SHIFT, 7, 4);
        check.due("1 of one", x.evaluate(6, 1, 2), 4);
        check.due("2 of one", x.evaluate(6, 2, 2), -3);
    }

    // Promise 10.

    private static void sum() {
        check.sentence("sum: The sum of the coefficients i .. j of s modulo 97");
        LazySeries x = new LazySeries();
        repeated(x, 0, 96);
        for (int i = 0; i < 16; i++) {
            for (int j = i; j < 16; j++) {
                check.due(i + " .. " + j, x.sum(0, i, j), mod(-(j - i + 1)));
            }
        }
        x = withoutValuesIn7();
        check.due("the first alone", x.sum(1, 0, 0), 0);
        check.due("the second alone", x.sum(1, 1, 1), 1);
        check.due("the last alone", x.sum(2, 15, 15), mod(1 << 15));
        check.due("all", x.sum(2, 0, 15), mod((1 << 16) - 1));

        check.sentence("sum: -1 if s is not good");
        for (int bad : BAD_SERIES) {
            check.due("series " + bad, x.sum(bad, 0, 15), -1);
        }
        check.sentence("sum: -2 unless 0 <= i <= j <= 15");
        for (int[] bad : BAD_RANGES) {
            check.due(bad[0] + " .. " + bad[1], x.sum(2, bad[0], bad[1]), -2);
        }
        check.sentence("sum: -3 if one of them has no value");
        x.define(6, LazySeries.DERIVATIVE, 2, 0);
        check.due("up to the last that has one", x.sum(6, 14, 14), mod(15 * (1 << 15)));
        check.due("up to one that has none", x.sum(6, 14, 15), -3);
        check.due("0 up to it", x.sum(6, 0, 15), -3);
        check.due("it alone", x.sum(6, 15, 15), -3);
        check.due("the first of none", x.sum(7, 0, 0), -3);
        check.due("all of none", x.sum(7, 0, 15), -3);
    }

    // Promise 11.

    private static void needs() {
        check.sentence("needs: place is 16 * s + n and other is 16 * t + m");
        for (int s = 0; s < 8; s++) {
            LazySeries x = new LazySeries();
            int t = 7 - s;
            x.define(s, LazySeries.SCALE, t, 1);
            for (int n = 0; n < 16; n++) {
                check.due("the same n", x.needs(16 * s + n, 16 * t + n), 1);
                check.due("turned round", x.needs(16 * t + n, 16 * s + n), 0);
                check.due("the next n", x.needs(16 * s + n, 16 * t + (n + 1) % 16), 0);
                check.due("itself", x.needs(16 * s + n, 16 * s + n), 0);
            }
        }
        check.sentence("needs: directly or over others");
        LazySeries x = new LazySeries();
        for (int s = 0; s < 7; s++) {
            x.define(s, LazySeries.SCALE, s + 1, 1);
            for (int t = 0; t < 8; t++) {
                check.due("0 needs " + t, x.needs(15, 16 * t + 15), t > 0 && t <= s + 1 ? 1 : 0);
            }
        }
        x.define(7, LazySeries.SHIFT, 0, 0);
        for (int place = 0; place < 128; place++) {
            check.due("over all 128 places, the last of them " + place, x.needs(15, place), place == 15 ? 0 : 1);
            check.due("from the first of them " + place, x.needs(16 * 7, place), 0);
        }
        LazySeries ring = new LazySeries();
        for (int s = 0; s < 8; s++) {
            ring.define(s, LazySeries.PRODUCT, (s + 1) % 8, s);
        }
        for (int place = 0; place < 128; place++) {
            check.due("the end needs all 128 places, itself too " + place, ring.needs(127, place), 1);
            check.due("the start needs the starts alone " + place, ring.needs(0, place), place % 16 == 0 ? 1 : 0);
        }
        check.sentence("needs: (whether or not they have values)");
        x = new LazySeries();
        withoutValues(x, 7);
        x.define(0, LazySeries.RECIPROCAL, 1, 0);
        x.define(2, LazySeries.CONSTANT, 0, 1);
        x.define(3, LazySeries.COMPOSE, 0, 2);
        x.define(4, LazySeries.SUM, 3, 7);
        check.due("a ring", x.needs(16 * 7, 16 * 7), 1);
        check.due("another place of the ring", x.needs(16 * 7, 16 * 7 + 1), 0);
        check.due("1 / 0", x.needs(15, 16 + 15) + x.needs(15, 14), 2);
        check.due("b[0] = 1", x.needs(16 * 3 + 15, 15) + x.needs(16 * 3 + 15, 16 * 2 + 15), 2);
        check.due("over what has no value", x.needs(16 * 4 + 15, 16 + 15) + x.needs(16 * 4 + 15, 16 * 7 + 15), 2);
        check.due("what has values", x.needs(16 * 2, 16 * 2) + x.needs(16 * 2, 0), 0);

        check.sentence("needs: -1 if place or other is not in 0 .. 127");
        for (int bad : BAD_PLACES) {
            for (int good : new int[] {0, 15, 112, 127}) {
                check.due("place " + bad, x.needs(bad, good), -1);
                check.due("other " + bad, x.needs(good, bad), -1);
            }
            check.due("both " + bad, x.needs(bad, bad), -1);
        }
        check.due("0 and 0", x.needs(0, 0), 0);
        check.due("0 and 127", x.needs(0, 127), 0);
        check.due("127 and 0", x.needs(127, 0), 0);
        check.due("127 and 127", x.needs(127, 127), 1);
        x.define(0, LazySeries.SCALE, 0, 0);
        check.due("0 and 0 when it needs itself", x.needs(0, 0), 1);
    }

    // "In every method the tests are made in the order named"

    private static void testsInTheOrderNamed() {
        check.sentence("In every method the tests are made in the order named");
        LazySeries x = withoutValuesIn7();
        for (int s : BAD_SERIES) {
            check.due("define: s before kind, a and b", x.define(s, 10, 8, 8), -1);
            check.due("define: s before a and b", x.define(s, LazySeries.SUM, 8, 8), -1);
            check.due("define: s before b", x.define(s, LazySeries.SUM, 0, 8), -1);
            check.due("coefficient: s before n", x.coefficient(s, 16), -1);
            check.due("evaluate: s before terms", x.evaluate(s, 17, 1), -1);
            check.due("sum: s before i and j", x.sum(s, 1, 0), -1);
            check.due("sum: s before j", x.sum(s, 0, 16), -1);
        }
        for (int kind : BAD_KINDS) {
            check.due("define: kind before a and b", x.define(0, kind, 8, 8), -2);
            check.due("define: kind before a", x.define(0, kind, -1, 0), -2);
            check.due("define: kind before b", x.define(0, kind, 0, -1), -2);
        }
        for (int kind : new int[] {LazySeries.SUM, LazySeries.PRODUCT, LazySeries.COMPOSE}) {
            check.due("define: a before b", x.define(0, kind, 8, -1), -3);
            check.due("define: a before b", x.define(0, kind, -1, 8), -3);
            check.due("define: b", x.define(0, kind, 7, 8), -4);
        }
        for (int n : BAD_COEFFICIENTS) {
            check.due("coefficient: n before the value", x.coefficient(7, n), -2);
        }
        for (int terms : BAD_TERMS) {
            check.due("evaluate: terms before the values", x.evaluate(7, terms, 1), -2);
        }
        for (int[] range : BAD_RANGES) {
            check.due("sum: i and j before the values", x.sum(7, range[0], range[1]), -2);
        }
    }

    // "No question changes anything. A refused call changes nothing."

    /** All there is to see; the define in the middle brings out what a call may have left for later. */
    private static int[] allThatIsSeen(LazySeries x) {
        int[] all = new int[136 + 1 + 136 + 128];
        System.arraycopy(state(x), 0, all, 0, 136);
        all[136] = x.define(6, LazySeries.COMPOSE, 4, 1);
        System.arraycopy(state(x), 0, all, 137, 136);
        for (int place = 0; place < 128; place++) {
            all[273 + place] = x.needs(place, 37 * place % 128);
        }
        return all;
    }

    /** exp, x and the powers of 2 as ever; 4 and 6 have all values, 5 all but one, 7 none. Eight calls. */
    private static LazySeries withManyKinds() {
        LazySeries x = withSomeSeries();
        x.define(4, LazySeries.RECIPROCAL, 0, 0);
        x.define(5, LazySeries.DERIVATIVE, 4, 0);
        x.define(6, LazySeries.COMPOSE, 4, 1);
        withoutValues(x, 7);
        return x;
    }

    private static void changesNothing(String call, Consumer<LazySeries> calls) {
        LazySeries x = withManyKinds();
        calls.accept(x);
        check.due("after " + call, allThatIsSeen(x), allThatIsSeen(withManyKinds()));
    }

    private static void questionsChangeNothing() {
        check.sentence("No question changes anything");
        for (int s = 0; s < 8; s++) {
            int of = s;
            changesNothing("kindOf", x -> x.kindOf(of));
            changesNothing("coefficient", x -> x.coefficient(of, 15));
            changesNothing("known", x -> x.known(of));
            changesNothing("valued", x -> x.valued(of));
            changesNothing("order", x -> x.order(of));
            changesNothing("agreeing", x -> x.agreeing(of, 7 - of));
            changesNothing("evaluate", x -> x.evaluate(of, 16, 96));
            changesNothing("sum", x -> x.sum(of, 0, 15));
            changesNothing("needs", x -> x.needs(16 * of + 15, 16 * of));
        }
        questionsAskedAgain();
    }

    private static void questionsAskedAgain() {
        LazySeries x = withManyKinds();
        int[] first = questions(x);
        check.due("the same questions again", questions(x), first);
    }

    /** Each question on each series: 80 calls. */
    private static int[] questions(LazySeries x) {
        int[] all = new int[80];
        for (int s = 0; s < 8; s++) {
            all[10 * s] = x.kindOf(s);
            all[10 * s + 1] = x.coefficient(s, 2 * s);
            all[10 * s + 2] = x.known(s);
            all[10 * s + 3] = x.valued(s);
            all[10 * s + 4] = x.order(s);
            all[10 * s + 5] = x.agreeing(s, 0);
            all[10 * s + 6] = x.evaluate(s, 15, 5);
            all[10 * s + 7] = x.sum(s, 1, 14);
            all[10 * s + 8] = x.needs(16 * s + 5, 16 * s + 4);
            all[10 * s + 9] = x.needs(127 - s, s);
        }
        return all;
    }

    private static void refusedCallsChangeNothing() {
        check.sentence("A refused call changes nothing");
        for (int kind = 0; kind <= 9; kind++) {
            int as = kind;
            changesNothing("define -1", x -> refused(x.define(8, as, 0, 0), -1));
            changesNothing("define -1", x -> refused(x.define(-1, as, 7, 7), -1));
            for (int s = 0; s < 8 && takesSeriesA(kind); s++) {
                int of = s;
                changesNothing("define -3", x -> refused(x.define(of, as, 8, 5), -3));
                changesNothing("define -3", x -> refused(x.define(of, as, -1, 8), -3));
            }
            for (int s = 0; s < 8 && takesSeriesB(kind); s++) {
                int of = s;
                changesNothing("define -4", x -> refused(x.define(of, as, 5, 8), -4));
                changesNothing("define -4", x -> refused(x.define(of, as, 2, -1), -4));
            }
        }
        for (int s = 0; s < 8; s++) {
            int of = s;
            changesNothing("define -2", x -> refused(x.define(of, 10, 5, 6), -2));
            changesNothing("define -2", x -> refused(x.define(of, -1, 5, 6), -2));
            changesNothing("coefficient -2", x -> refused(x.coefficient(of, 16), -2));
            changesNothing("evaluate -2", x -> refused(x.evaluate(of, 17, 1), -2));
            changesNothing("sum -2", x -> refused(x.sum(of, 1, 0), -2));
        }
        changesNothing("coefficient -1", x -> refused(x.coefficient(8, 0), -1));
        changesNothing("coefficient -3", x -> refused(x.coefficient(7, 0), -3));
        changesNothing("kindOf -1", x -> refused(x.kindOf(8), -1));
        changesNothing("known -1", x -> refused(x.known(-1), -1));
        changesNothing("valued -1", x -> refused(x.valued(8), -1));
        changesNothing("order -1", x -> refused(x.order(-1), -1));
        changesNothing("order -2", x -> refused(x.order(7), -2));
        changesNothing("agreeing -1", x -> refused(x.agreeing(0, 8), -1));
        changesNothing("evaluate -1", x -> refused(x.evaluate(8, 0, 0), -1));
        changesNothing("evaluate -3", x -> refused(x.evaluate(7, 16, 5), -3));
        changesNothing("sum -1", x -> refused(x.sum(-1, 0, 0), -1));
        changesNothing("sum -3", x -> refused(x.sum(5, 0, 15), -3));
        changesNothing("needs -1", x -> refused(x.needs(128, 0), -1));
        changesNothing("needs -1", x -> refused(x.needs(127, -1), -1));
    }

    private static void refused(int got, int want) {
        check.due("the refused call", got, want);
    }

    // "An object is used for at most 512 calls after it has been made"

    private static void atMost512Calls() {
        check.sentence("An object is used for at most 512 calls after it has been made");
        the512thCall("kindOf", x -> x.kindOf(0), LazySeries.SHIFT);
        the512thCall("coefficient", x -> x.coefficient(0, 15), 30);
        the512thCall("known", x -> x.known(0), 16);
        the512thCall("valued", x -> x.valued(0), 16);
        the512thCall("order", x -> x.order(0), 0);
        the512thCall("agreeing", x -> x.agreeing(0, 1), 0);
        the512thCall("evaluate", x -> x.evaluate(0, 16, 1), mod(16 * 30));
        the512thCall("sum", x -> x.sum(0, 0, 15), mod(16 * 30));
        the512thCall("needs", x -> x.needs(15, 0), 1);
        the512thCall("define", x -> x.define(0, LazySeries.CONSTANT, 0, 1), LazySeries.SHIFT);
        the512thCall("a refused define", x -> x.define(0, 10, 0, 1), -2);

        LazySeries x = withManyKinds();
        int[] first = questions(x);
        // 8 calls made the series and 80 asked first; 5 times 80 more keep below 512.
        for (int again = 0; again < 5; again++) {
            check.due("questions alone", questions(x), first);
        }
    }

    /** The last call that is promised, after as many calls of define as can be before it. */
    private static void the512thCall(String name, ToIntFunction<LazySeries> last, int want) {
        LazySeries x = new LazySeries();
        for (int call = 1; call < CALLS_OF_AN_OBJECT; call++) {
            // So that call 511 makes 30, 30, 30, .. of series 0.
            int before = call == 1 ? LazySeries.CONSTANT : LazySeries.SHIFT;
            check.due("define, call " + call, x.define(0, LazySeries.SHIFT, 0, call - 481), before);
        }
        check.due(name + " as call 512", last.applyAsInt(x), want);

        x = new LazySeries();
        repeated(x, 0, 30);
        for (int call = 2; call < CALLS_OF_AN_OBJECT; call++) {
            check.due("refused, call " + call, x.define(0, LazySeries.SUM, call % 8, 8), -4);
        }
        check.due(name + " as call 512 after refused ones", last.applyAsInt(x), want);
    }

    // The seventh rule of LANGUAGE.md, and every refusal with every other beside it.

    private static void anyArguments() {
        check.sentence("No call may ever throw or fail to end, for any arguments in any state");
        for (int first : ANY) {
            for (int second : ANY) {
                LazySeries x = withoutValuesIn7();
                boolean good = isSeries(first);
                String with = "(" + first + ", " + second + " ..)";
                int noValue = first == 7 ? -3 : 0;
                check.due("coefficient" + with, refusal(x.coefficient(first, second)), !good ? -1 : second < 0 || second > 15 ? -2 : noValue);
                check.due("agreeing" + with, refusal(x.agreeing(first, second)), good && isSeries(second) ? 0 : -1);
                check.due("needs" + with, refusal(x.needs(first, second)), isPlace(first) && isPlace(second) ? 0 : -1);
                for (int third : ANY) {
                    boolean range = 0 <= second && second <= third && third <= 15;
                    boolean terms = second >= 0 && second <= 16;
                    check.due("sum" + with, refusal(x.sum(first, second, third)), !good ? -1 : !range ? -2 : noValue);
                    check.due("evaluate" + with, refusal(x.evaluate(first, second, third)), !good ? -1 : !terms ? -2 : second == 0 ? 0 : noValue);
                }
                anyDefine(first, second);
            }
        }
    }

    private static void anyDefine(int s, int kind) {
        LazySeries x = new LazySeries();
        for (int a : ANY) {
            for (int b : ANY) {
                int want = 0;
                if (!isSeries(s)) {
                    want = -1;
                } else if (kind < 0 || kind > 9) {
                    want = -2;
                } else if (takesSeriesA(kind) && !isSeries(a)) {
                    want = -3;
                } else if (takesSeriesB(kind) && !isSeries(b)) {
                    want = -4;
                }
                check.due("define(" + s + ", " + kind + ", " + a + ", " + b + ")", refusal(x.define(s, kind, a, b)), want);
            }
        }
    }

    private static boolean isSeries(int s) {
        return s >= 0 && s <= 7;
    }

    private static boolean isPlace(int place) {
        return place >= 0 && place <= 127;
    }

    /** The answer of a refused call, and 0 for that of any other. */
    private static int refusal(int answer) {
        return Math.min(0, answer);
    }
}
