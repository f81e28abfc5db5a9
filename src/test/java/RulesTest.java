import java.io.IOException;
import java.nio.file.Files;
import java.nio.file.Path;
import java.util.List;

/** The class keeps to the rules of ../shared/LANGUAGE.md, and Rules tells each of them of a class that does not. */
public final class RulesTest {
    private static final Path SOURCE = Path.of("src/main/java/BeggingBoards.java");

    private RulesTest() {
    }

    public static void main(String[] args) throws IOException {
        Check check = new Check("RulesTest");
        List<String> broken = Rules.brokenBy("BeggingBoards", Files.readString(SOURCE));
        for (String rule : broken) {
            System.out.println("LANGUAGE.md, " + rule);
        }
        check.due("rules that the class breaks", broken.size(), 0);
        whatIsAllowed(check);
        classes(check);
        typesAndLibrary(check);
        statements(check);
        sizes(check);
        check.end();
    }

    private static void breaks(Check check, int rule, String body) throws IOException {
        String source = "public final class X { " + body + " }";
        boolean told = false;
        for (String broken : Rules.brokenBy("X", source)) {
            told = told || broken.startsWith(rule + ":");
        }
        check.holds("rule " + rule + " is told of: " + body, told);
    }

    private static void whatIsAllowed(Check check) throws IOException {
        String[] fine = {
            "private static final int[] A = {1, 2}; public int a(int b) { return Math.max(A[0], b); }",
            "private final int[][] a = new int[2][3]; private final Y[] b = new Y[2];"
                    + " private static final class Y { final boolean[] c = new boolean[4]; int d; }",
            "public int a(int b) { int c = 0; for (int i = 0; i < b && i < 9; i++) { c += i / 3; } return c; }",
            "public int a(int b) { int c = 9; while (b > 0 && c > 0) { c--; } return c; }",
            "private enum E { ONE, TWO } private interface I { int of(int b); }"};
        for (String body : fine) {
            List<String> broken = Rules.brokenBy("X", "public final class X { " + body + " }");
            check.due("nothing is told of: " + body, broken.size(), 0);
        }
    }

    private static void classes(Check check) throws IOException {
        breaks(check, 1, "int a() { return 1; }");
        breaks(check, 1, "protected int a() { return 1; }");
        breaks(check, 1, "int a;");
        breaks(check, 1, "public static class Y { }");
        breaks(check, 1, "public int a() { return 1; } private int a(int b) { return b; }");
        breaks(check, 1, "public int a() { return 1; } private static class Y { private int a() { return 2; } }");
        breaks(check, 1, "} class Y {");
        breaks(check, 2, "private class Y { }");
        breaks(check, 2, "public int a() { class Y { } return 1; }");
        breaks(check, 2, "private interface I { int of(); }"
                + " private final I i = new I() { public int of() { return 1; } };");
        breaks(check, 2, "private interface I { int of(); } private final I i = () -> 1;");
        breaks(check, 2, "private interface I { int of(); } private static int b() { return 1; }"
                + " private final I i = X::b;");
        breaks(check, 12, "private static class Y { Y(X x) { b(x); } private void b(X x) { } }"
                + " private static void c(X x) { } public X() { c(this); }");
        breaks(check, 12, "public int a() { int[] b = new int[3]; return b.length; }");
        breaks(check, 12, "private static class Y { } public int a() { Y y = new Y(); return y == null ? 1 : 2; }");
        breaks(check, 12, "private int a; { a = 3; }");
    }

    private static void typesAndLibrary(Check check) throws IOException {
        breaks(check, 3, "private final java.util.HashMap<Integer, Integer> a = null;");
        breaks(check, 3, "private final int[][][] a = new int[1][1][1];");
        breaks(check, 3, "private static class Y { } private final Y[][] a = new Y[1][1];");
        breaks(check, 3, "private final Object a = null;");
        breaks(check, 3, "private static Object a() { return null; }");
        breaks(check, 4, "public int a(int b) { return Math.addExact(b, b); }");
        breaks(check, 4, "public int a() { return (int) System.nanoTime(); }");
        breaks(check, 4, "public int a() { System.out.println(); return 1; }");
        breaks(check, 4, "public int a() { return Integer.MAX_VALUE; }");
        breaks(check, 4, "public int a() { return hashCode(); }");
        breaks(check, 4, "private static final char A = '\u00e9';");
        breaks(check, 5, "private static int a;");
        breaks(check, 5, "private static final int[] A = new int[3];");
        breaks(check, 5, "private static final boolean[] A = {true};");
        breaks(check, 5, "private static final int[] A = {1}; public int a() { A[0] = 2; return 1; }");
        breaks(check, 5, "private static final int[] A = {1}; public int a() { A[0]++; return 1; }");
        breaks(check, 5, "private static final int[] A = {1}; public int a() { A[0] += 2; return 1; }");
        breaks(check, 5, "private static final int A; static { A = 2; }");
    }

    private static void statements(Check check) throws IOException {
        breaks(check, 6, "public int a() { throw new RuntimeException(); }");
        breaks(check, 6, "public int a() { try { return 1; } finally { } }");
        breaks(check, 6, "public int a(int b) { assert b > 0; return 1; }");
        breaks(check, 6, "public int a() { synchronized (this) { return 1; } }");
        breaks(check, 6, "public synchronized int a() { return 1; }");
        breaks(check, 6, "public int a() throws RuntimeException { return 1; }");
        breaks(check, 6, "private final String s = \"\"; public int a() { return s == \"b\" ? 1 : 2; }");
        breaks(check, 6, "private interface I { } private record Y(int b) implements I { } private final I i = null;"
                + " public int a() { return ((Y) i).b(); }");
        breaks(check, 8, "public int a(int b) { return c(b); } private int c(int b) { return b > 9 ? b : c(b + 1); }");
        breaks(check, 8, "private int c(int b) { return d(b); } private int d(int b) { return c(b); }");
        breaks(check, 9, "public int a() { while (true) { } }");
        breaks(check, 9, "public int a() { for (;;) { } }");
        breaks(check, 9, "public int a(int b) { int c = b; do { c = c / 2; } while (c > 0); return c; }");
        breaks(check, 9, "public int a(int b) { int c = 0; while (c < 9 || b > 0) { c++; } return c; }");
        breaks(check, 10, "private final String s = \"\"; public int a(int b) { return (s + b).length(); }");
    }

    private static void sizes(Check check) throws IOException {
        breaks(check, 11, "public int a(int b, int c, int d, int e, int f, int g, int h, int i) { return 1; }");
        breaks(check, 11, "public int a(int b) {\n" + "b++;\n".repeat(60) + "return b; }");
        StringBuilder classes = new StringBuilder();
        StringBuilder fields = new StringBuilder();
        StringBuilder deep = new StringBuilder("public int a() { return b0(); }");
        for (int i = 0; i < 21; i++) {
            fields.append("private int f").append(i).append("; ");
        }
        for (int i = 0; i < 12; i++) {
            classes.append("private static class Y").append(i).append(" { } ");
        }
        for (int i = 0; i < 8; i++) {
            String next = i < 7 ? "b" + (i + 1) + "()" : "1";
            deep.append(" private int b").append(i).append("() { return ").append(next).append("; }");
        }
        breaks(check, 11, fields.toString());
        breaks(check, 11, classes.toString());
        breaks(check, 11, deep.toString());
    }
}
