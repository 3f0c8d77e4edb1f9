import java.io.IOException;
import java.nio.file.Files;
import java.nio.file.Path;
import java.util.List;

/** That the class keeps to the rules of LANGUAGE.md that can be seen in its source, and that breaches would be seen. */
public final class SourceRulesTest {
    private static final Path SOURCE = Path.of("src/main/java/AlternatingAutomata.java");

    private SourceRulesTest() {
    }

    public static void main(String[] args) throws IOException {
        String source = Files.readString(SOURCE);
        Due.is("faults of the class", "", String.join("\n", SourceRules.faultsOf(source)));
        soundMembers();
        faultyFiles();
        faultyClasses();
        faultyMembers();
        faultyStatements();
        faultyLoops();
        faultyCalls();
        Due.end();
    }

    private static String around(String members) {
        return "import java.util.Arrays; public final class AlternatingAutomata {\n" + members + "\n}";
    }

    private static void breaks(int rule, String source) throws IOException {
        List<String> faults = SourceRules.faultsOf(source);
        boolean isSeen = faults.stream().anyMatch(fault -> fault.startsWith("rule " + rule + ","));
        Due.is("rule " + rule + " seen in " + source + " among " + faults, 1, isSeen ? 1 : 0);
    }

    private static void breaksInside(int rule, String members) throws IOException {
        breaks(rule, around(members));
    }

    private static void breaksInMethod(int rule, String statements) throws IOException {
        breaks(rule, around("private int[] row = new int[3]; private static final int[] FIXED = {1, 2};"
            + " private static int probe(int value, String text) { " + statements + " }"));
    }

    private static void soundMembers() throws IOException {
        String members = "public static final int NONE = -1; private static final int MANY = 3;"
            + " private static final long[] ROW = {1L, 2L}; private final int[] all = new int[2 * MANY];"
            + " private static final class Part { int size = 0; Part(int n) { grow(n); } void grow(int n) { size += n; } }"
            + " private final Part part = new Part(2);"
            + " public int work(int x) { int sum = 0; for (int i = 0; i < MANY; i++) { sum += Math.max(x, i) / MANY; }"
            + " Arrays.fill(all, 1); part.grow(sum); return part.size; }";
        Due.is("faults of sound members", "", String.join("\n", SourceRules.faultsOf(around(members))));
    }

    private static void faultyFiles() throws IOException {
        breaks(1, "package some.where; public final class AlternatingAutomata { }");
        breaks(1, "public class AlternatingAutomata { }");
        breaks(1, "final class AlternatingAutomata { }");
        breaks(1, "public final class AlternatingAutomata { } class Second { }");
        breaks(4, "import java.util.HashMap; public final class AlternatingAutomata { }");
        breaks(4, "import java.util.*; public final class AlternatingAutomata { }");
        StringBuilder many = new StringBuilder();
        for (int i = 0; i < 12; i++) {
            many.append("private static final class Part").append(i).append(" { } ");
        }
        breaksInside(11, many.toString());
    }

    private static void faultyClasses() throws IOException {
        breaksInside(1, "public static final class Part { }");
        breaksInside(2, "private final class Part { }");
        breaksInside(2, "private int probe() { class Part { } return 1; }");
        breaksInside(2, "interface Part { int size(); } private Part probe() { return new Part() {"
            + " public int size() { return 1; } }; }");
        breaksInside(2, "interface Part { int size(); } private Part probe() { return () -> 1; }");
        breaksInside(2, "interface Part { int size(int n); } private Part probe() { return Math::abs; }");
        breaksInside(5, "private final int[] row = new int[1]; { row[0] = 1; }");
        breaksInside(5, "static { int nothing = 0; }");
        StringBuilder fields = new StringBuilder();
        for (int i = 0; i < 21; i++) {
            fields.append("private int field").append(i).append("; ");
        }
        breaksInside(11, fields.toString());
    }

    private static void faultyMembers() throws IOException {
        breaksInside(1, "int open = 0;");
        breaksInside(1, "public int open = 0;");
        breaksInside(1, "protected int probe() { return 1; }");
        breaksInside(1, "int probe() { return 1; }");
        breaksInside(1, "public int probe() { return 1; } private int probe(int x) { return x; }");
        breaksInside(1, "public int probe() { return 1; } private static final class Part { int probe() { return 1; } }");
        breaksInside(3, "private Object anything = null;");
        breaksInside(3, "private java.util.Map<Integer, Integer> map = null;");
        breaksInside(3, "private int[][][] cube = null;");
        breaksInside(3, "private boolean[][] signs = null;");
        breaksInside(3, "private Object probe() { return null; }");
        breaksInside(5, "private static int count = 0;");
        breaksInside(5, "private static final int[] ROW = new int[3];");
        breaksInside(5, "private static final double HALF = 0.5;");
        breaksInside(6, "private synchronized int probe() { return 1; }");
        breaksInside(6, "public String toString() { return \"x\"; }");
        breaksInside(6, "public int hashCode() { return 1; }");
        breaksInside(11, "private int probe(int a, int b, int c, int d, int e, int f, int g, int h) { return 1; }");
        breaksInside(11, "private int probe() {\n" + "\n".repeat(60) + "return 1; }");
        breaksInside(12, "private int probe() { int[] row = new int[3]; return row.length; }");
        breaksInside(12, "private static final class Part { } private Part probe() { return new Part(); }");
        breaksInside(12, "static class Part { Part() { grow(); } void grow() { } }");
        breaksInside(7, "private final int[] row; AlternatingAutomata(int n) { row = new int[n]; }");
        breaksInside(7, "private final int[] row = new int[-1];");
    }

    private static void faultyStatements() throws IOException {
        breaksInMethod(4, "return Math.addExact(value, 1);");
        breaksInMethod(4, "return (int) Math.sqrt(4.0);");
        breaksInMethod(4, "return (int) System.nanoTime();");
        breaksInMethod(4, "System.out.println(); return 1;");
        breaksInMethod(4, "Arrays.sort(FIXED); return 1;");
        breaksInMethod(4, "return text.hashCode();");
        breaksInMethod(4, "return '\\u00e9';");
        breaksInMethod(5, "FIXED[0] = 1; return 1;");
        breaksInMethod(5, "FIXED[0] += 1; return 1;");
        breaksInMethod(5, "FIXED[0]++; return 1;");
        breaksInMethod(6, "throw new IllegalArgumentException();");
        breaksInMethod(6, "try { return 1; } finally { value = 2; }");
        breaksInMethod(6, "try { return 1; } catch (RuntimeException e) { return 2; }");
        breaksInMethod(6, "assert value > 0; return 1;");
        breaksInMethod(6, "synchronized (text) { return 1; }");
        breaksInMethod(6, "return text == \"x\" ? 1 : 0;");
        breaksInMethod(6, "return ((String) text).length();");
        breaksInMethod(7, "return 7 / value;");
        breaksInMethod(7, "return 7 % value;");
        breaksInMethod(7, "value /= value; return value;");
        breaksInMethod(7, "return value / 0;");
        breaksInMethod(10, "String longer = text + value; return 1;");
    }

    private static void faultyLoops() throws IOException {
        breaksInMethod(9, "while (value > 0) { value--; } return 1;");
        breaksInMethod(9, "do { value--; } while (value > 0); return 1;");
        breaksInMethod(9, "for (;;) { value--; }");
        breaksInMethod(9, "for (int i = 0; ; i++) { value--; }");
        breaksInMethod(9, "for (int i = 0; i < 3;) { i++; } return 1;");
        breaksInMethod(9, "for (int i = 0; i < 3; i++) { i--; } return 1;");
        breaksInMethod(9, "for (int i = 0; i < 3; i++) { i = 0; } return 1;");
        breaksInMethod(9, "for (int i = 0; i < value; i++) { value++; } return 1;");
        breaksInMethod(9, "for (int i = 0; i < value; i++) { value += 2; } return 1;");
        breaksInMethod(9, "for (int i = 3; i < 4; i--) { value++; } return 1;");
        breaksInMethod(9, "for (int i = 0; i >= 0; i++) { value++; } return 1;");
        breaksInMethod(9, "for (int i = 0; i < 3 || value > 0; i++) { value++; } return 1;");
    }

    private static void faultyCalls() throws IOException {
        breaksInside(8, "private static int probe(int n) { return n > 0 ? probe(n - 1) : 0; }");
        breaksInside(8, "private static int one(int n) { return two(n); } private static int two(int n) { return one(n); }");
        StringBuilder chain = new StringBuilder();
        for (int i = 0; i < 8; i++) {
            chain.append("private static int deep").append(i).append("() { return deep").append(i + 1).append("(); } ");
        }
        breaksInside(11, chain + "private static int deep8() { return 1; }");
    }
}
