import java.io.IOException;
import java.nio.file.Files;
import java.nio.file.Path;
import java.util.List;

/** The class keeps to LANGUAGE.md; and Language, which says so, does find what breaks a rule. */
public final class LanguageTest {
    private static final Path SOURCE = Path.of("src/main/java/VersionHeap.java");

    private static final String GOOD = "public final class VersionHeap {"
            + " private static final int SIZE = 3; private final int[] cells = new int[SIZE];"
            + " private int top = 1; public VersionHeap() { top = SIZE; }"
            + " public int look(int at) { int sum = (int) 1L; if (isIn(at)) { sum += cells[at]; }"
            + " for (int i = 0; i < SIZE; i++) { sum += cells[i]; } return sum; }"
            + " private static boolean isIn(int at) { return at >= 0 && at < SIZE; } }";

    public static void main(String[] args) throws IOException {
        List<String> faults = Language.faults(Files.readString(SOURCE));
        Check.holds(SOURCE + " within the rules, broken are " + faults + ":", faults.isEmpty());
        Check.holds("a class within the rules has no faults: " + Language.faults(GOOD),
                Language.faults(GOOD).isEmpty());
        brokenOutside();
        brokenMembers();
        brokenStatements();
        brokenLoops();
        brokenCalls();
        Check.finish();
    }

    private static void broken(int rule, String source) throws IOException {
        List<String> faults = Language.faults(source);
        Check.holds("rule " + rule + " is seen broken in '" + source + "', seen is " + faults,
                faults.stream().anyMatch(fault -> fault.startsWith(rule + ":")));
    }

    private static void brokenMember(int rule, String member) throws IOException {
        broken(rule, GOOD.replace("private int top", member + " private int top"));
    }

    private static void brokenStatement(int rule, String statement) throws IOException {
        broken(rule, GOOD.replace("return sum;", statement + " return sum;"));
    }

    private static void brokenOutside() throws IOException {
        broken(1, "package p; " + GOOD);
        broken(1, GOOD + " class Other { }");
        broken(1, "interface VersionHeap { }");
        broken(2, GOOD.replace("VersionHeap {", "VersionHeap extends Thread {"));
        broken(3, "import java.util.List; " + GOOD);
    }

    private static void brokenMembers() throws IOException {
        brokenMember(1, "int visible = 1;");
        brokenMember(1, "private record Pair(int a, int b) { }");
        brokenMember(1, "private enum Kind { ONE }");
        brokenMember(2, "private String name;");
        brokenMember(2, "private final int[][] cells2 = new int[2][2];");
        brokenMember(2, "private double half;");
        brokenMember(2, "private String name() { return name(); }");
        brokenMember(4, "private int[] more = new int[2];");
        brokenMember(4, "private final int[] more = new int[SIZE + top];");
        brokenMember(4, "private final int[] more = {1, 2};");
        brokenMember(4, "private final int[] more;");
        brokenMember(4, "private int[] more() { return cells; }");
        brokenMember(5, "private static int count = 0;");
        brokenMember(5, "private static final boolean YES = true;");
        brokenMember(5, "private static final int[] ALL = new int[2];");
        brokenMember(5, "static { }");
        brokenMember(6, "private void fail() throws Exception { }");
        brokenMember(10, "private void eight(int a, int b, int c, int d, int e, int f, int g, "
                + "int h) { }");
        brokenMember(10, "private void tall() { " + "top = 1;\n".repeat(60) + " }");
        StringBuilder fields = new StringBuilder();
        for (int field = 0; field < 40; field++) {
            fields.append("private int f").append(field).append(" = 0; ");
        }
        brokenMember(10, fields.toString());
    }

    private static void brokenStatements() throws IOException {
        brokenStatement(2, "float half = 1;");
        brokenStatement(2, "var more = 1;");
        brokenStatement(2, "sum += 0.5;");
        brokenStatement(2, "sum += \"a\".length();");
        brokenStatement(3, "sum = Math.max(sum, 1);");
        brokenStatement(3, "sum = Integer.MAX_VALUE;");
        brokenStatement(3, "sum = hashCode();");
        brokenStatement(3, "sum = this.hashCode();");
        brokenStatement(4, "int[] more = new int[3];");
        brokenStatement(4, "int[] more = {1};");
        brokenStatement(4, "new VersionHeap();");
        brokenStatement(4, "if (cells == null) { sum = 1; }");
        brokenStatement(6, "throw null;");
        brokenStatement(6, "try { sum = 1; } finally { sum = 2; }");
        brokenStatement(6, "synchronized (this) { sum = 1; }");
        brokenStatement(6, "assert sum > 0;");
        brokenStatement(6, "if (this instanceof Object) { sum = 1; }");
        brokenStatement(6, "Runnable run = () -> { };");
        brokenStatement(6, "Runnable run = this::hashCode;");
        brokenStatement(6, "Object it = (Object) this;");
        brokenStatement(7, "sum = 1 / sum;");
        brokenStatement(7, "sum %= top;");
    }

    private static void brokenLoops() throws IOException {
        brokenStatement(8, "while (sum > 0) { sum--; }");
        brokenStatement(8, "do { sum--; } while (sum > 0);");
        brokenStatement(8, "for (int cell : cells) { sum += cell; }");
        brokenStatement(8, "for (;;) { break; }");
        brokenStatement(8, "for (int i = 0; i < top; i++) { sum++; }");
        brokenStatement(8, "for (int i = 0; i < SIZE; i--) { sum++; }");
        brokenStatement(8, "for (int i = 0; i >= SIZE; i++) { sum++; }");
        brokenStatement(8, "for (int i = 0; i < SIZE; i++) { i--; }");
        brokenStatement(8, "for (int i = 0; i < SIZE; i++) { i = 0; }");
        brokenStatement(8, "for (int i = 0; i < SIZE; i++) { i -= 1; }");
    }

    private static void brokenCalls() throws IOException {
        brokenStatement(8, "sum = look(at);");
        brokenMember(8, "private void a() { b(); } private void b() { a(); }");
        brokenMember(10, "private int a(int x) { return x; } private int b() { return a(a(1)); }");
        brokenMember(10, "private int a(int x) { return x; } "
                + "private int b() { return a(1 + cells[a(1)]); }");
        brokenMember(10, "private void a() { b(); } private void b() { c(); } "
                + "private void c() { d(); } private void d() { e(); } private void e() { f(); } "
                + "private void f() { g(); } private void g() { }");
    }
}
