import java.io.IOException;
import java.nio.file.Files;
import java.nio.file.Path;
import java.util.List;

/** The rules of LANGUAGE.md: the class keeps to them, and Rules finds a program that does not. Run in the project's folder. */
public final class RulesTest {
    private static final Due D = new Due();

    public static void main(String[] args) throws IOException {
        D.about("the class");
        for (String breach : Rules.breaches(Files.readString(Path.of("src/main/java/OnceLetters.java")))) {
            D.holds(breach, false);
        }
        fine("private int a(int x) { return Math.min(x, 2) % 3; }");
        fine("private static final int[] ROW = {1, 2}; private final String s = \"a\"; private final int[][] rows = new int[2][3];");
        ofClasses();
        ofTypes();
        ofStatements();
        ofCalls();
        ofSizes();
        D.end();
    }

    private static List<String> of(String members) throws IOException {
        return Rules.breaches("import java.util.*; public final class OnceLetters {\n" + members + "\n}");
    }

    private static void fine(String members) throws IOException {
        D.about("a program within the rules");
        D.holds(members + " " + of(members), of(members).isEmpty());
    }

    private static void breaks(int rule, String members) throws IOException {
        D.about("a program outside rule " + rule);
        D.holds(members + " " + of(members), of(members).stream().anyMatch(s -> s.startsWith("rule " + rule + ":") || s.startsWith("rule " + rule + ",")));
    }

    private static void ofClasses() throws IOException {
        breaks(1, "public int a() { return 1; } private int a(int x) { return x; }");
        breaks(1, "public static final class B { }");
        breaks(1, "} class Other {");
        breaks(2, "private final class B { }");
        breaks(2, "int a() { class B { } return 1; }");
        breaks(2, "int a() { Comparable<Integer> c = new Comparable<Integer>() { public int compareTo(Integer o) { return 0; } }; return 1; }");
        breaks(2, "int a() { Runnable r = () -> { }; return 1; }");
        breaks(2, "int a() { Runnable r = this::b; return 1; } void b() { }");
    }

    private static void ofTypes() throws IOException {
        breaks(3, "private Object o;");
        breaks(3, "private int[][][] rows;");
        breaks(3, "private HashMap<Integer, Integer> map;");
        breaks(3, "private ArrayList<Long> list;");
        breaks(3, "Object a() { return null; }");
        breaks(3, "int a() { Long x = 1L; return 1; }");
        breaks(5, "private static int x = 1;");
        breaks(5, "private static final double X = 1;");
        breaks(5, "private static final int[] ROW = new int[3];");
        breaks(5, "private static final int X; static { X = 1; }");
    }

    private static void ofStatements() throws IOException {
        breaks(6, "int a() { throw new IllegalStateException(); }");
        breaks(6, "int a() { try { return 1; } finally { } }");
        breaks(6, "int a() { synchronized (this) { return 1; } }");
        breaks(6, "int a(int x) { assert x > 0; return 1; }");
        breaks(6, "boolean a(String x, String y) { return x == y; }");
        breaks(6, "boolean a(Integer x, Integer y) { return x != y; }");
        breaks(6, "int a(String x) { return ((Comparable<String>) x) == null ? 1 : 2; }");
        breaks(6, "public String toString() { return \"a\"; }");
        breaks(7, "int a(int x) { return 3 / x; }");
        breaks(7, "int a(int x) { return 3 % (x + 1); }");
        breaks(7, "int a(int x) { int y = 1; y /= x; return y; }");
        breaks(9, "int a() { for (;;) { } }");
        breaks(9, "int a() { int n = 0; while (n < 9) { n++; } return n; }");
        breaks(9, "int a() { int n = 0; do { n++; } while (n < 9); return n; }");
        breaks(9, "int a() { for (int i = 0; i < 9; i++) { i = 0; } return 1; }");
        breaks(9, "int a() { for (int i = 0; i < 9; i--) { } return 1; }");
        breaks(10, "String a(String x) { return x + 1; }");
        breaks(10, "String a(String x) { x += 1; return x; }");
    }

    private static void ofCalls() throws IOException {
        breaks(4, "long a() { return System.nanoTime(); }");
        breaks(4, "int a(int x) { return Math.addExact(x, 1); }");
        breaks(4, "int a(String x) { return x.compareTo(x); }");
        breaks(4, "int a() { return hashCode(); }");
        breaks(4, "private final long a = new Random().nextLong();");
        breaks(8, "int a(int x) { return x == 0 ? 0 : a(x - 1); }");
        breaks(8, "int a(int x) { return b(x); } int b(int x) { return a(x); }");
        breaks(12, "int[] a() { return new int[3]; }");
        breaks(12, "OnceLetters a() { return new OnceLetters(); }");
    }

    private static void ofSizes() throws IOException {
        breaks(11, "int a(int b, int c, int d, int e, int f, int g, int h, int i) { return 1; }");
        breaks(11, "int a() {" + "\n".repeat(60) + "return 1; }");
        StringBuilder chain = new StringBuilder("int a9() { return 1; }");
        StringBuilder fields = new StringBuilder("int b0;");
        StringBuilder classes = new StringBuilder();
        for (int i = 0; i < 9; i++) {
            chain.append(" int a").append(i).append("() { return a").append(i + 1).append("(); }");
        }
        for (int i = 1; i < 21; i++) {
            fields.append(" int b").append(i).append(";");
        }
        for (int i = 0; i < 12; i++) {
            classes.append(" private static final class C").append(i).append(" { }");
        }
        breaks(11, chain.toString());
        breaks(11, fields.toString());
        breaks(11, classes.toString());
    }
}
