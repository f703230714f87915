/**
 * Power series modulo 97 that are defined by each other, and that may refer to themselves.
 *
 * Coefficient n of series s stands at the place 16 * s + n in every array over places.
 */
public final class LazySeries {
    public static final int CONSTANT = 0;
    public static final int VARIABLE = 1;
    public static final int SUM = 2;
    public static final int PRODUCT = 3;
    public static final int SCALE = 4;
    public static final int DERIVATIVE = 5;
    public static final int INTEGRAL = 6;
    public static final int RECIPROCAL = 7;
    public static final int SHIFT = 8;
    public static final int COMPOSE = 9;

    private static final int SERIES = 8;
    private static final int LENGTH = 16;
    private static final int PLACES = 128;
    private static final int MODULUS = 97;

    private static final int NO_SERIES = -1;
    private static final int NO_KIND = -2;
    private static final int NO_FIRST_PART = -3;
    private static final int NO_SECOND_PART = -4;
    private static final int OUT_OF_RANGE = -2;
    private static final int NO_ORDER = -2;
    private static final int NO_VALUE = -3;
    private static final int NO_PLACE = -1;

    private final int[] kinds = new int[SERIES];
    // A part that plays no role is kept as 0, so that a part is always a good series or a reduced number.
    private final int[] firstParts = new int[SERIES];
    private final int[] secondParts = new int[SERIES];

    private final boolean[] hasValue = new boolean[PLACES];
    private final int[] values = new int[PLACES];

    // Room for one call's work; nothing in these outlives the call.
    private final int[] power = new int[LENGTH];
    private final boolean[] reached = new boolean[PLACES];
    private final int[] reachedInTurn = new int[PLACES];

    public LazySeries() {
        findAllValues();
    }

    public int define(int s, int kind, int a, int b) {
        if (!isSeries(s)) {
            return NO_SERIES;
        }
        if (kind < CONSTANT || kind > COMPOSE) {
            return NO_KIND;
        }
        boolean firstIsSeries = firstPartIsSeries(kind);
        if (firstIsSeries && !isSeries(a)) {
            return NO_FIRST_PART;
        }
        boolean secondIsSeries = secondPartIsSeries(kind);
        if (secondIsSeries && !isSeries(b)) {
            return NO_SECOND_PART;
        }
        int before = kinds[s];
        kinds[s] = kind;
        firstParts[s] = firstIsSeries ? a : 0;
        if (secondIsSeries) {
            secondParts[s] = b;
        } else {
            secondParts[s] = secondPartIsNumber(kind) ? reduced(b) : 0;
        }
        findAllValues();
        return before;
    }

    public int kindOf(int s) {
        return isSeries(s) ? kinds[s] : NO_SERIES;
    }

    public int coefficient(int s, int n) {
        if (!isSeries(s)) {
            return NO_SERIES;
        }
        if (n < 0 || n >= LENGTH) {
            return OUT_OF_RANGE;
        }
        int place = LENGTH * s + n;
        return hasValue[place] ? values[place] : NO_VALUE;
    }

    public int known(int s) {
        if (!isSeries(s)) {
            return NO_SERIES;
        }
        return valuesInFront(s);
    }

    public int valued(int s) {
        if (!isSeries(s)) {
            return NO_SERIES;
        }
        int count = 0;
        for (int n = 0; n < LENGTH; n++) {
            if (hasValue[LENGTH * s + n]) {
                count++;
            }
        }
        return count;
    }

    public int order(int s) {
        if (!isSeries(s)) {
            return NO_SERIES;
        }
        int usable = valuesInFront(s);
        for (int n = 0; n < LENGTH && n < usable; n++) {
            if (values[LENGTH * s + n] != 0) {
                return n;
            }
        }
        return NO_ORDER;
    }

    public int agreeing(int s, int t) {
        if (!isSeries(s) || !isSeries(t)) {
            return NO_SERIES;
        }
        for (int n = 0; n < LENGTH; n++) {
            int ofS = LENGTH * s + n;
            int ofT = LENGTH * t + n;
            if (!hasValue[ofS] || !hasValue[ofT] || values[ofS] != values[ofT]) {
                return n;
            }
        }
        return LENGTH;
    }

    public int evaluate(int s, int terms, int x) {
        if (!isSeries(s)) {
            return NO_SERIES;
        }
        if (terms < 0 || terms > LENGTH) {
            return OUT_OF_RANGE;
        }
        if (valuesInFront(s) < terms) {
            return NO_VALUE;
        }
        int point = reduced(x);
        int total = 0;
        for (int n = terms - 1; n >= 0; n--) {
            total = (total * point + values[LENGTH * s + n]) % MODULUS;
        }
        return total;
    }

    public int sum(int s, int i, int j) {
        if (!isSeries(s)) {
            return NO_SERIES;
        }
        if (i < 0 || i > j || j >= LENGTH) {
            return OUT_OF_RANGE;
        }
        int total = 0;
        for (int n = i; n <= j; n++) {
            if (!hasValue[LENGTH * s + n]) {
                return NO_VALUE;
            }
            total += values[LENGTH * s + n];
        }
        return total % MODULUS;
    }

    public int needs(int place, int other) {
        if (place < 0 || place >= PLACES || other < 0 || other >= PLACES) {
            return NO_PLACE;
        }
        reachNeedsOf(place);
        return reached[other] ? 1 : 0;
    }

    private static boolean isSeries(int s) {
        return s >= 0 && s < SERIES;
    }

    private static boolean firstPartIsSeries(int kind) {
        return kind != CONSTANT && kind != VARIABLE;
    }

    private static boolean secondPartIsSeries(int kind) {
        return kind == SUM || kind == PRODUCT || kind == COMPOSE;
    }

    private static boolean secondPartIsNumber(int kind) {
        return kind == CONSTANT || kind == SCALE || kind == INTEGRAL || kind == SHIFT;
    }

    private static int reduced(int number) {
        int rest = number % MODULUS;
        return rest < 0 ? rest + MODULUS : rest;
    }

    /** The z with number * z = 1 modulo 97, or 0 if there is none; the number is 0 .. 96. */
    private static int inverse(int number) {
        for (int z = 1; z < MODULUS; z++) {
            if (number * z % MODULUS == 1) {
                return z;
            }
        }
        return 0;
    }

    private int valuesInFront(int s) {
        for (int n = 0; n < LENGTH; n++) {
            if (!hasValue[LENGTH * s + n]) {
                return n;
            }
        }
        return LENGTH;
    }

    private boolean needsDirectly(int place, int other) {
        int s = place / LENGTH;
        int n = place % LENGTH;
        int t = other / LENGTH;
        int m = other % LENGTH;
        boolean ofFirst = t == firstParts[s];
        boolean ofSecond = t == secondParts[s];
        switch (kinds[s]) {
            case SUM:
                return m == n && (ofFirst || ofSecond);
            case PRODUCT:
            case COMPOSE:
                return m <= n && (ofFirst || ofSecond);
            case SCALE:
                return m == n && ofFirst;
            case DERIVATIVE:
                return m == n + 1 && ofFirst;
            case INTEGRAL:
            case SHIFT:
                return m == n - 1 && ofFirst;
            case RECIPROCAL:
                return (m <= n && ofFirst) || (m < n && t == s);
            default:
                return false;
        }
    }

    private void reachNeedsOf(int place) {
        for (int other = 0; other < PLACES; other++) {
            reached[other] = false;
        }
        int count = reachDirectNeedsOf(place, 0);
        for (int turn = 0; turn < PLACES && turn < count; turn++) {
            count = reachDirectNeedsOf(reachedInTurn[turn], count);
        }
    }

    /** Answers how many places are reached now; once all are, there is none left to look for. */
    private int reachDirectNeedsOf(int place, int countBefore) {
        int count = countBefore;
        for (int other = 0; other < PLACES && count < PLACES; other++) {
            if (!reached[other] && needsDirectly(place, other)) {
                reached[other] = true;
                reachedInTurn[count] = other;
                count++;
            }
        }
        return count;
    }

    private void findAllValues() {
        for (int place = 0; place < PLACES; place++) {
            hasValue[place] = false;
            values[place] = 0;
        }
        // Every round but the last gives at least one place its value, so as many rounds as places are enough.
        boolean found = true;
        for (int round = 0; round < PLACES && found; round++) {
            found = false;
            for (int place = 0; place < PLACES; place++) {
                if (!hasValue[place] && allNeedsHaveValues(place) && !isRuledOut(place)) {
                    values[place] = valueAt(place);
                    hasValue[place] = true;
                    found = true;
                }
            }
        }
    }

    private boolean allNeedsHaveValues(int place) {
        for (int other = 0; other < PLACES; other++) {
            if (!hasValue[other] && needsDirectly(place, other)) {
                return false;
            }
        }
        return true;
    }

    /** Whether the kind itself denies this place a value although all that it needs has one. */
    private boolean isRuledOut(int place) {
        int s = place / LENGTH;
        switch (kinds[s]) {
            case DERIVATIVE:
                return place % LENGTH == LENGTH - 1;
            case RECIPROCAL:
                return values[LENGTH * firstParts[s]] == 0;
            case COMPOSE:
                return values[LENGTH * secondParts[s]] != 0;
            default:
                return false;
        }
    }

    /** The value at a place that is not ruled out and whose needs all have values. */
    private int valueAt(int place) {
        int s = place / LENGTH;
        int n = place % LENGTH;
        int number = secondParts[s];
        int first = LENGTH * firstParts[s];
        int second = LENGTH * secondParts[s];
        switch (kinds[s]) {
            case CONSTANT:
                return n == 0 ? number : 0;
            case VARIABLE:
                return n == 1 ? 1 : 0;
            case SUM:
                return (values[first + n] + values[second + n]) % MODULUS;
            case PRODUCT:
                return productValue(first, second, n);
            case SCALE:
                return number * values[first + n] % MODULUS;
            case DERIVATIVE:
                return n + 1 < LENGTH ? (n + 1) * values[first + n + 1] % MODULUS : 0;
            case INTEGRAL:
                return n == 0 ? number : values[first + n - 1] * inverse(n) % MODULUS;
            case RECIPROCAL:
                return reciprocalValue(first, LENGTH * s, n);
            case SHIFT:
                return n == 0 ? number : values[first + n - 1];
            case COMPOSE:
                return composedValue(first, second, n);
            default:
                return 0;
        }
    }

    private int productValue(int first, int second, int n) {
        int total = 0;
        for (int i = 0; i <= n; i++) {
            total += values[first + i] * values[second + n - i];
        }
        return total % MODULUS;
    }

    private int reciprocalValue(int first, int own, int n) {
        if (n == 0) {
            return inverse(values[first]);
        }
        int total = 0;
        for (int i = 1; i <= n; i++) {
            total += values[first + i] * values[own + n - i];
        }
        return reduced(-values[own] * (total % MODULUS));
    }

    private int composedValue(int first, int second, int n) {
        power[0] = 1;
        for (int d = 1; d <= n; d++) {
            power[d] = 0;
        }
        int total = values[first] * power[n];
        for (int j = 1; j <= n; j++) {
            raisePower(second, n);
            total += values[first + j] * power[n];
        }
        return total % MODULUS;
    }

    /** From the top down, so that the lower coefficients are still the old ones where they are read. */
    private void raisePower(int second, int n) {
        for (int d = n; d >= 0; d--) {
            int total = 0;
            for (int i = 0; i <= d; i++) {
                total += power[i] * values[second + d - i];
            }
            power[d] = total % MODULUS;
        }
    }
}
