import java.io.IOException;
import java.nio.file.Files;
import java.nio.file.Path;
import java.util.Set;

/** The class keeps to LANGUAGE.md, and a class that breaks one of its rules is found out. */
public final class RulesTest {
    private static final Path SOURCE = Path.of("src/main/java/SeaweedWindows.java");
    private static final String KEPT = """
        public final class SeaweedWindows {
            public static final int NONE = -4;
            private final int[] a = new int[10];
            private int m;
            public SeaweedWindows() {
                m = 0;
            }
            public int lengths() {
                return half(m);
            }
            private int half(int x) {
                int sum = 0;
                for (int i = 0; i < x; i++) {
                    sum += a[0];
                }
                return sum;
            }
        }
        """;
    private static final Checks checks = new Checks();

    private static void sourceBreaksNothing(String name, String source) throws IOException {
        Set<String> broken = Rules.brokenBy(source);
        checks.holds(name + " keeps to the rules: " + broken, broken.isEmpty());
    }

    /** The source that keeps to the rules, with one piece of it changed, breaks this rule. */
    private static void breaks(int rule, String piece, String changed) throws IOException {
        checks.holds("the piece " + piece + " is there", KEPT.contains(piece));
        Set<String> broken = Rules.brokenBy(KEPT.replace(piece, changed));
        boolean isFound = broken.stream().anyMatch(what -> what.startsWith("rule " + rule + ":"));
        checks.holds("rule " + rule + " is broken by " + changed + ": " + broken, isFound);
    }

    private static void inAMethod(int rule, String statement) throws IOException {
        breaks(rule, "int sum = 0;", "int sum = 0; " + statement);
    }

    private static void inTheClass(int rule, String member) throws IOException {
        breaks(rule, "    private int m;", "    private int m;\n" + member);
    }

    private static void theFormOfTheClass() throws IOException {
        breaks(1, "public final class", "public class");
        breaks(1, "private int m;", "int m;");
        breaks(1, "private int half(", "int half(");
        inTheClass(1, "private int lengths(int x) { return x; }");
        inTheClass(1, "private static final class Inner { }");
        inTheClass(1, "private enum Inner { ONE }");
        inTheClass(2, "private double share;");
        inTheClass(2, "private int[][] table;");
        inTheClass(2, "private int[] letters() { return a; }");
        inTheClass(5, "private static int made;");
        inTheClass(5, "private static final int[] TABLE = new int[3];");
        inTheClass(5, "static { }");
        breaks(3, "public final class", "import java.util.List; public final class");
        breaks(1, "public final class", "package one; public final class");
        breaks(10, "private int m;", "private int m; ".repeat(41));
    }

    private static void whatAMethodMayNotDo() throws IOException {
        inAMethod(2, "String text;");
        inAMethod(2, "float share = 0;");
        inAMethod(2, "var other = 0;");
        inAMethod(2, "int[] other = null;");
        inAMethod(3, "sum = Math.max(sum, 1);");
        inAMethod(3, "sum = hashCode();");
        inAMethod(3, "sum = Integer.MAX_VALUE;");
        breaks(3, "public int lengths()", "@Deprecated public int lengths()");
        inAMethod(4, "int[] other = new int[3];");
        inAMethod(4, "int[] other = a;");
        inAMethod(4, "a = a;");
        inAMethod(4, "this.a = a;");
        inAMethod(4, "if (a == a) { sum = 1; }");
        breaks(4, "new int[10]", "new int[5 + 5]");
        breaks(4, "new int[10]", "new int[0]");
        breaks(4, "new int[10]", "{1, 2, 3}");
        inAMethod(6, "throw new Error();");
        inAMethod(6, "try { sum = 1; } finally { }");
        inAMethod(6, "synchronized (this) { }");
        inAMethod(6, "assert sum == 0;");
        inAMethod(6, "Runnable r = () -> { };");
        inAMethod(6, "Runnable r = this::lengths;");
        breaks(6, "public int lengths() {", "public int lengths() throws Exception {");
    }

    private static void callsAndLoops() throws IOException {
        inAMethod(8, "sum = half(x);");
        inAMethod(8, "sum = lengths();");
        inAMethod(8, "while (sum < 3) { sum++; }");
        inAMethod(8, "do { sum++; } while (sum < 3);");
        inAMethod(8, "for (;;) { }");
        inAMethod(8, "for (int y = 0; y != 3; y++) { }");
        inAMethod(8, "for (int y = 0; y < 3; sum++) { }");
        inAMethod(8, "for (int y = 0; y < 3; y++) { y--; }");
        inAMethod(8, "for (int y = 0; y < 3; y++) { y = 0; }");
        inAMethod(8, "for (int y = 0; y < x; y++) { x += 1; }");
        breaks(10, "half(m)", "half(half(m))");
        breaks(10, "half(m)", "half(1 + half(m))");
        breaks(10, "half(int x)", "half(int x, int b, int c, int d, int e, int f, int g, int h)");
        inAMethod(10, "sum++;\n".repeat(60));
        breaks(10, "    private int m;", "    private int m;\n" + chain(6));
    }

    /** The first of these methods goes one call deeper than their number is. */
    private static String chain(int links) {
        StringBuilder out = new StringBuilder();
        for (int i = 0; i < links; i++) {
            out.append("private int link" + i + "() { return link" + (i + 1) + "(); }\n");
        }
        return out + "private int link" + links + "() { return 0; }\n";
    }

    public static void main(String[] args) throws IOException {
        sourceBreaksNothing("SeaweedWindows", Files.readString(SOURCE));
        sourceBreaksNothing("the example", KEPT);
        sourceBreaksNothing("the example with six calls deep", KEPT.replace("private int m;", "private int m;\n" + chain(5)));
        theFormOfTheClass();
        whatAMethodMayNotDo();
        callsAndLoops();
        checks.end();
    }
}
