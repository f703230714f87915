import java.io.IOException;
import java.nio.file.Files;
import java.nio.file.Path;
import java.util.List;

/** The program's text keeps to LANGUAGE.md, as far as a text shows it; and what would not is found. */
public final class LazySeriesLanguage {
    private static final String PROGRAM = "src/main/java/LazySeries.java";

    /** Each with the rule that it breaks when it stands in the class of inClass. */
    private static final String[][] WRONG_MEMBERS = {
        {"1", "int open() { return 0; }"},
        {"1", "protected int half() { return 0; }"},
        {"1", "public int shown = 0;"},
        {"1", "private int ask(int n, int m) { return n + m; }"},
        {"1", "private static final class Inner { }"},
        {"1", "private enum Inner { ONE }"},
        {"1", "private interface Inner { }"},
        {"1", "private record Inner(int n) { }"},
        {"2", "private double part = 0;"},
        {"2", "private String name;"},
        {"2", "private void f(float x) { }"},
        {"2", "private float f() { return 0; }"},
        {"2", "private void f() { Object x; }"},
        {"2", "private void f() { var x = 0; }"},
        {"2", "private boolean f() { return 1.5 > 1; }"},
        {"2", "private final int[][] table = new int[2][2];"},
        {"3", "private int f(int n) { return Math.abs(n); }"},
        {"3", "private int f(int n) { return java.lang.Math.abs(n); }"},
        {"3", "private int f() { return Integer.MAX_VALUE; }"},
        {"3", "private int f() { return hashCode(); }"},
        {"3", "private int f() { return this.hashCode(); }"},
        {"3", "private int f() { return cells.clone().length; }"},
        {"4", "private void f() { int[] more = new int[2]; }"},
        {"4", "private void f() { int[] more = {1, 2}; }"},
        {"4", "private final int[] more = {1, 2};"},
        {"4", "private final int[] more = new int[2 + 1];"},
        {"4", "private int[] more;"},
        {"4", "private int[] f() { return cells; }"},
        {"4", "private boolean f() { return cells == cells; }"},
        {"4", "private boolean f() { return cells != null; }"},
        {"4", "private void f(int[] other) { this.cells = other; }"},
        {"4", "private void f(int[] other) { other = cells; }"},
        {"4", "private void f() { new Good(); }"},
        {"5", "private static int count = 0;"},
        {"5", "private static final int[] TABLE = new int[2];"},
        {"5", "private static final boolean YES = true;"},
        {"5", "static { }"},
        {"6", "private void f() { throw null; }"},
        {"6", "private void f() { try { } finally { } }"},
        {"6", "private void f() { synchronized (this) { } }"},
        {"6", "private synchronized void f() { }"},
        {"6", "private void f(int n) { assert n > 0; }"},
        {"6", "private boolean f() { return this instanceof Good; }"},
        {"6", "private void f() { Runnable r = () -> { }; }"},
        {"6", "private void f() { Runnable r = this::f; }"},
        {"6", "private void f() { Object x = (Object) cells; }"},
        {"7", "private int f(int n) { return 5 / n; }"},
        {"7", "private int f(int n) { return 5 % n; }"},
        {"7", "private int f(int n) { int m = 5; m /= n; return m; }"},
        {"7", "private int f(int n) { int m = 5; m %= n; return m; }"},
        {"8", "private int f(int n) { return f(n); }"},
        {"8", "private int f(int n) { return g(n); } private int g(int n) { return this.f(n); }"},
        {"8", "private void f(int n) { while (n > 0) { n--; } }"},
        {"8", "private void f(int n) { do { n--; } while (n > 0); }"},
        {"8", "private void f() { for (;;) { } }"},
        {"8", "private void f(boolean on) { for (int i = 0; on; i++) { } }"},
        {"8", "private void f(int n) { for (int i = 0; i != n; i++) { } }"},
        {"8", "private void f(int n) { for (int i = 0; i < n || n > 3; i++) { } }"},
        {"8", "private void f(int n) { for (int i = 0; i < 3; n++) { } }"},
        {"8", "private void f(int n) { for (int i = 0; i < 3; i++) { i = 0; } }"},
        {"8", "private void f(int n) { for (int i = 0; i < 3; i++) { i -= 1; } }"},
        {"8", "private void f(int n) { for (int i = 0; i < 3; i++) { n = i--; } }"},
        {"8", "private void f() { for (int cell : cells) { } }"},
        {"10", "private void f(int a, int b, int c, int d, int e, int f, int g, int h) { }"},
        {"10", "private int f(int n) { return half(half(n)); }"},
        {"10", "private int f(int n) { return half(1 + half(n)); }"},
        {"10", "private int f(int n) {" + "\n".repeat(60) + "return n; }"},
        {"10", deepCalls(7)},
        {"10", manyFields(40)},
    };

    /** Each at its edge, and yet kept. */
    private static final String[] RIGHT_MEMBERS = {
        "private void f(int a, int b, int c, int d, int e, int f, int g) { }",
        "private int f(int n) {" + "\n".repeat(59) + "return n; }",
        "private int f(int n) { int m = half(n); return half(m) + half(n); }",
        "private void f(int n) { for (int i = n; i >= 0 && cells[0] > 3; i--) { } }",
        "private void f(int[] some) { int[] same = some; same[0] = (int) 3L; }",
        "private static final int MORE = -SIZE; private final boolean[] flags = new boolean[3];",
        deepCalls(6),
        manyFields(39),
    };

    private static final Check check = new Check();

    public static void main(String[] args) throws IOException {
        List<String> ofProgram = LanguageRules.breachesOf("LazySeries", Files.readString(Path.of(PROGRAM)));
        check.holds(PROGRAM + " keeps to the rules: " + ofProgram, ofProgram.isEmpty());
        for (String[] wrong : WRONG_MEMBERS) {
            breaks(wrong[0], inClass(wrong[1]));
        }
        for (String right : RIGHT_MEMBERS) {
            List<String> found = LanguageRules.breachesOf("Good", inClass(right));
            check.holds("nothing is wrong with " + right + ": " + found, found.isEmpty());
        }
        breaks("1", "package some; " + inClass(""));
        breaks("1", inClass("") + " class Second { }");
        breaks("1", inClass("").replace("final class", "class"));
        breaks("3", "import java.util.List; " + inClass(""));
        breaks("2", inClass("").replace("Good {", "Good implements Runnable {"));
        check.finish();
    }

    private static void breaks(String rule, String text) throws IOException {
        List<String> found = LanguageRules.breachesOf("Good", text);
        check.holds("rule " + rule + " is broken by " + text + ", found: " + found,
            found.stream().anyMatch(breach -> breach.startsWith("rule " + rule + ":")));
    }

    private static String inClass(String member) {
        return "public final class Good { private static final int SIZE = 4; private final int[] cells = new int[SIZE];"
            + " public Good() { } public int ask(int n) { return n >= 0 && n < SIZE ? cells[n] : -1; }"
            + " private static int half(int n) { return n / 2; } " + member + " }";
    }

    private static String deepCalls(int deep) {
        StringBuilder methods = new StringBuilder("private void f1() { }");
        for (int i = 2; i <= deep; i++) {
            methods.append(" private void f").append(i).append("() { f").append(i - 1).append("(); }");
        }
        return methods.toString();
    }

    /** One field stands in the class already. */
    private static String manyFields(int more) {
        StringBuilder fields = new StringBuilder();
        for (int i = 0; i < more; i++) {
            fields.append("private int field").append(i).append(" = 0; ");
        }
        return fields.toString();
    }
}
