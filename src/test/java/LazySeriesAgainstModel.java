import java.math.BigInteger;
import java.util.ArrayList;
import java.util.BitSet;
import java.util.List;
import java.util.Random;

/**
 * Made-up runs against a second program for the same document, from the top down where the class goes from
 * the bottom up. The seed is fixed, so every run is the same each time.
 */
public final class LazySeriesAgainstModel {
    private static final int RUNS = 2500;
    private static final BigInteger MODULUS = BigInteger.valueOf(97);
    private static final int[] EDGES = {0, 1, -1, 96, 97, -97, Integer.MIN_VALUE, Integer.MAX_VALUE};

    private static final Check check = new Check();

    public static void main(String[] args) {
        Random random = new Random(97);
        int[] seen = new int[17];
        for (int run = 0; run < RUNS; run++) {
            new Run(run, random).play(seen);
        }
        // The runs tell little if no series in them has values, or if all have all.
        for (int known : new int[] {0, 1, 2, 3, 13, 14, 15, 16}) {
            check.holds("some series was known up to " + known, seen[known] > 0);
        }
        check.finish();
    }

    /** The document's definitions, asked by recursion. */
    private static final class Model {
        final int[] kind = new int[8];
        final int[] a = new int[8];
        final int[] b = new int[8];
        private final boolean[] done = new boolean[128];
        private final boolean[] underWay = new boolean[128];
        private final BigInteger[] found = new BigInteger[128];

        int define(int s, int newKind, int newA, int newB) {
            if (s < 0 || s > 7) {
                return -1;
            }
            if (newKind < 0 || newKind > 9) {
                return -2;
            }
            if (newKind > 1 && (newA < 0 || newA > 7)) {
                return -3;
            }
            if ((newKind == 2 || newKind == 3 || newKind == 9) && (newB < 0 || newB > 7)) {
                return -4;
            }
            int before = kind[s];
            kind[s] = newKind;
            a[s] = newA;
            b[s] = newB;
            java.util.Arrays.fill(done, false);
            return before;
        }

        List<Integer> directNeeds(int s, int n) {
            List<Integer> all = new ArrayList<>();
            switch (kind[s]) {
                case 2 -> {
                    all.add(16 * a[s] + n);
                    all.add(16 * b[s] + n);
                }
                case 3, 9 -> {
                    addUpTo(all, a[s], n);
                    addUpTo(all, b[s], n);
                }
                case 4 -> all.add(16 * a[s] + n);
                case 5 -> {
                    if (n < 15) {
                        all.add(16 * a[s] + n + 1);
                    }
                }
                case 6, 8 -> {
                    if (n > 0) {
                        all.add(16 * a[s] + n - 1);
                    }
                }
                case 7 -> {
                    addUpTo(all, a[s], n);
                    addUpTo(all, s, n - 1);
                }
                default -> { }
            }
            return all;
        }

        private static void addUpTo(List<Integer> all, int series, int last) {
            for (int m = 0; m <= last; m++) {
                all.add(16 * series + m);
            }
        }

        BitSet needs(int place) {
            BitSet all = new BitSet();
            addNeeds(place, all);
            return all;
        }

        private void addNeeds(int place, BitSet all) {
            for (int other : directNeeds(place / 16, place % 16)) {
                if (!all.get(other)) {
                    all.set(other);
                    addNeeds(other, all);
                }
            }
        }

        /** The value or null. What is met again while it is under way needs itself, and has none. */
        BigInteger value(int place) {
            if (underWay[place]) {
                return null;
            }
            if (!done[place]) {
                underWay[place] = true;
                boolean all = true;
                for (int other : directNeeds(place / 16, place % 16)) {
                    all &= value(other) != null;
                }
                found[place] = all ? worked(place / 16, place % 16) : null;
                underWay[place] = false;
                done[place] = true;
            }
            return found[place];
        }

        private BigInteger worked(int s, int n) {
            BigInteger number = BigInteger.valueOf(b[s]).mod(MODULUS);
            BigInteger order = BigInteger.valueOf(n);
            switch (kind[s]) {
                case 0:
                    return n == 0 ? number : BigInteger.ZERO;
                case 1:
                    return n == 1 ? BigInteger.ONE : BigInteger.ZERO;
                case 2:
                    return part(a[s], n).add(part(b[s], n)).mod(MODULUS);
                case 3:
                    return times(upTo(a[s], n), upTo(b[s], n))[n];
                case 4:
                    return number.multiply(part(a[s], n)).mod(MODULUS);
                case 5:
                    return n == 15 ? null : order.add(BigInteger.ONE).multiply(part(a[s], n + 1)).mod(MODULUS);
                case 6:
                    return n == 0 ? number : part(a[s], n - 1).multiply(order.modInverse(MODULUS)).mod(MODULUS);
                case 7:
                    return part(a[s], 0).signum() == 0 ? null : reciprocal(upTo(a[s], n))[n];
                case 8:
                    return n == 0 ? number : part(a[s], n - 1);
                default:
                    return part(b[s], 0).signum() != 0 ? null : composed(upTo(a[s], n), upTo(b[s], n))[n];
            }
        }

        private BigInteger part(int series, int n) {
            return value(16 * series + n);
        }

        private BigInteger[] upTo(int series, int n) {
            BigInteger[] all = new BigInteger[n + 1];
            for (int m = 0; m <= n; m++) {
                all[m] = part(series, m);
            }
            return all;
        }

        private static BigInteger[] times(BigInteger[] p, BigInteger[] q) {
            BigInteger[] all = new BigInteger[p.length];
            java.util.Arrays.fill(all, BigInteger.ZERO);
            for (int i = 0; i < p.length; i++) {
                for (int j = 0; i + j < p.length; j++) {
                    all[i + j] = all[i + j].add(p[i].multiply(q[j])).mod(MODULUS);
                }
            }
            return all;
        }

        /** By long division of 1 by the series. */
        private static BigInteger[] reciprocal(BigInteger[] p) {
            BigInteger[] rest = new BigInteger[p.length];
            java.util.Arrays.fill(rest, BigInteger.ZERO);
            rest[0] = BigInteger.ONE;
            BigInteger[] all = new BigInteger[p.length];
            for (int n = 0; n < p.length; n++) {
                all[n] = rest[n].multiply(p[0].modInverse(MODULUS)).mod(MODULUS);
                for (int i = 0; n + i < p.length; i++) {
                    rest[n + i] = rest[n + i].subtract(all[n].multiply(p[i])).mod(MODULUS);
                }
            }
            return all;
        }

        /** By Horner's rule. */
        private static BigInteger[] composed(BigInteger[] p, BigInteger[] q) {
            BigInteger[] all = new BigInteger[p.length];
            java.util.Arrays.fill(all, BigInteger.ZERO);
            for (int j = p.length - 1; j >= 0; j--) {
                all = times(all, q);
                all[0] = all[0].add(p[j]).mod(MODULUS);
            }
            return all;
        }

        int coefficient(int s, int n) {
            BigInteger value = value(16 * s + n);
            return value == null ? -3 : value.intValue();
        }

        int known(int s) {
            int k = 0;
            while (k < 16 && coefficient(s, k) >= 0) {
                k++;
            }
            return k;
        }

        int valued(int s) {
            int count = 0;
            for (int n = 0; n < 16; n++) {
                count += coefficient(s, n) >= 0 ? 1 : 0;
            }
            return count;
        }

        int order(int s) {
            int n = 0;
            while (n < 16 && coefficient(s, n) == 0) {
                n++;
            }
            return n < 16 && coefficient(s, n) > 0 ? n : -2;
        }

        int agreeing(int s, int t) {
            int k = 0;
            while (k < 16 && coefficient(s, k) >= 0 && coefficient(s, k) == coefficient(t, k)) {
                k++;
            }
            return k;
        }

        int evaluate(int s, int terms, int x) {
            BigInteger total = BigInteger.ZERO;
            for (int n = 0; n < terms; n++) {
                if (value(16 * s + n) == null) {
                    return -3;
                }
                total = total.add(value(16 * s + n).multiply(BigInteger.valueOf(x).pow(n)));
            }
            return total.mod(MODULUS).intValue();
        }

        int sum(int s, int i, int j) {
            int total = 0;
            for (int n = i; n <= j; n++) {
                if (coefficient(s, n) < 0) {
                    return -3;
                }
                total += coefficient(s, n);
            }
            return total % 97;
        }
    }

    /** One object and its model; an object is asked no more than 512 times. */
    private static final class Run {
        private final LazySeries x = new LazySeries();
        private final Model model = new Model();
        private final Random random;
        private final int number;
        private final StringBuilder calls = new StringBuilder();

        Run(int number, Random random) {
            this.number = number;
            this.random = random;
        }

        void play(int[] seen) {
            int defines = 1 + random.nextInt(30);
            int wild = random.nextInt(8);
            for (int i = 0; i < defines; i++) {
                define(wild);
                int place = random.nextInt(128);
                due("coefficient of " + place, x.coefficient(place / 16, place % 16), model.coefficient(place / 16, place % 16));
            }
            askAboutEverySeries();
            for (int s = 0; s < 8; s++) {
                seen[model.known(s)]++;
            }
        }

        private void define(int wild) {
            int s = random.nextInt(8);
            int kind = random.nextInt(10);
            // The kinds that take a series at the same coefficient soon leave nothing with a value.
            if (wild > 2 && random.nextInt(3) == 0) {
                kind = random.nextBoolean() ? LazySeries.SHIFT : LazySeries.INTEGRAL;
            }
            int a = random.nextInt(8);
            int b = random.nextInt(8);
            if (kind == 0 || kind == 4 || kind == 6 || kind == 8) {
                b = someNumber();
            }
            // A series 0 at first keeps COMPOSE in play.
            if (random.nextInt(4) == 0 && (kind == 6 || kind == 8)) {
                b = 0;
            }
            if (random.nextInt(20) == 0) {
                s = random.nextInt(12) - 2;
                kind = random.nextInt(14) - 2;
                a = random.nextInt(12) - 2;
                b = someNumber();
            }
            calls.append(" define(").append(s).append(", ").append(kind).append(", ").append(a).append(", ").append(b).append(")");
            due("define", x.define(s, kind, a, b), model.define(s, kind, a, b));
        }

        private int someNumber() {
            return random.nextInt(4) == 0 ? EDGES[random.nextInt(EDGES.length)] : random.nextInt(300) - 150;
        }

        private void askAboutEverySeries() {
            for (int s = 0; s < 8; s++) {
                due("kindOf " + s, x.kindOf(s), model.kind[s]);
                due("known " + s, x.known(s), model.known(s));
                due("valued " + s, x.valued(s), model.valued(s));
                due("order " + s, x.order(s), model.order(s));
                for (int n = 0; n < 16; n++) {
                    due("coefficient " + s + ", " + n, x.coefficient(s, n), model.coefficient(s, n));
                }
                for (int t = 0; t < 8; t++) {
                    due("agreeing " + s + ", " + t, x.agreeing(s, t), model.agreeing(s, t));
                }
                for (int i = 0; i < 5; i++) {
                    askAtRandom(s);
                }
            }
        }

        private void askAtRandom(int s) {
            int terms = random.nextInt(17);
            int point = someNumber();
            due("evaluate " + s + ", " + terms + ", " + point, x.evaluate(s, terms, point), model.evaluate(s, terms, point));
            int i = random.nextInt(16);
            int j = i + random.nextInt(16 - i);
            due("sum " + s + ", " + i + ", " + j, x.sum(s, i, j), model.sum(s, i, j));
            int place = 16 * s + random.nextInt(16);
            BitSet needed = model.needs(place);
            int other = random.nextInt(128);
            due("needs " + place + ", " + other, x.needs(place, other), needed.get(other) ? 1 : 0);
            int some = needed.isEmpty() ? place : needed.nextSetBit(random.nextInt(needed.length()));
            due("needs " + place + ", " + some, x.needs(place, some), needed.get(some) ? 1 : 0);
            due("needs " + place + ", itself", x.needs(place, place), needed.get(place) ? 1 : 0);
        }

        private void due(String call, int got, int want) {
            if (got == want) {
                check.due(call, got, want);
            } else {
                check.due("run " + number + ", after" + calls + ": " + call, got, want);
            }
        }
    }
}
