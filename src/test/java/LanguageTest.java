import java.io.IOException;
import java.nio.file.Files;
import java.nio.file.Path;
import java.util.List;

/** The class keeps to LANGUAGE.md, as far as its source text can tell; and what breaks a rule is seen. */
public final class LanguageTest {
    private static final Path SOURCE = Path.of("src/main/java/CausalObjects.java");
    private static final Checks c = new Checks();

    public static void main(String[] args) throws IOException {
        for (String broken : LanguageRules.brokenIn(Files.readString(SOURCE))) {
            c.holds(broken, false);
        }
        c.due("files of the program", Files.list(SOURCE.getParent()).count(), 1);
        plainIsTaken();
        rules1To3AreSeen();
        rule4IsSeen();
        rules5To6AreSeen();
        rules8To10AreSeen();
        rule7NoCallThrows();
        c.end();
    }

    private static String inClass(String members) {
        return "public final class CausalObjects { private static final int N = 3; private int n = 0;"
            + " private final int[] a = new int[N]; public CausalObjects() { } " + members + " }";
    }

    private static String inMethod(String statements) {
        return inClass("public int add(int replica, int element) { " + statements + " return 0; }");
    }

    private static void plainIsTaken() throws IOException {
        taken(inMethod("for (int i = 0; i < N; i++) { a[i] += a.length; } long m = (long) n << 3; n = m > 0L ? 1 : -1;"));
        taken(inClass("public int reset(int replica) { return twice(a, 1); } private static int twice(int[] b, int i) { return 2 * b[i]; }"));
        taken(inClass("private final long[] b = new long[48];"));
    }

    private static void taken(String source) throws IOException {
        List<String> broken = LanguageRules.brokenIn(source);
        c.holds("nothing is wrong with " + source + ": " + broken, broken.isEmpty());
    }

    private static void seen(int rule, String source) throws IOException {
        List<String> broken = LanguageRules.brokenIn(source);
        c.holds("rule " + rule + " is seen to be broken in " + source + ": " + broken,
            broken.stream().anyMatch(line -> line.startsWith("rule " + rule + ",")));
    }

    private static void rules1To3AreSeen() throws IOException {
        seen(1, "package p; " + inClass(""));
        seen(1, inClass("") + " class Other { }");
        seen(1, inClass("").replace("final class", "class"));
        seen(1, inClass("private static final class Part { }"));
        seen(1, inClass("private enum Sort { ADD }"));
        seen(1, inClass("int open = 0;"));
        seen(1, inClass("public static final int MOST = 48;"));
        seen(1, inClass("public int other() { return 0; }"));
        seen(1, inClass("int other() { return 0; }"));
        seen(1, inClass("private int add(int one) { return one; }"));
        seen(2, inMethod("double d = n;"));
        seen(2, inMethod("n = (int) 1.5;"));
        seen(2, inMethod("n = (int) (float) n;"));
        seen(2, inMethod("var v = n;"));
        seen(2, inClass("private String s;"));
        seen(2, inClass("private int[][] table;"));
        seen(2, inMethod("Object o = new Object();"));
        seen(3, "import java.util.List; " + inClass(""));
        seen(3, inMethod("n = Math.abs(n);"));
        seen(3, inMethod("n = Integer.MAX_VALUE;"));
        seen(3, inMethod("n = hashCode();"));
        seen(3, inMethod("int[] b = a.clone();"));
        seen(3, inMethod("System.gc();"));
    }

    private static void rule4IsSeen() throws IOException {
        seen(4, inMethod("n = twice(new int[3]);"));
        seen(4, inMethod("int[] b = new int[3];"));
        seen(4, inClass("private final int[] b = {1, 2};"));
        seen(4, inClass("private final int[] b = new int[0];"));
        seen(4, inClass("private final int[] b = new int[N + n];"));
        seen(4, inMethod("a = new int[3];"));
        seen(4, inClass("private int[] all() { return a; }"));
        seen(4, inMethod("if (a == a) { n = 1; }"));
        seen(4, inMethod("if (a != null) { n = 1; }"));
        seen(4, inMethod("int[] b = a;"));
    }

    private static void rules5To6AreSeen() throws IOException {
        seen(5, inClass("private static int made = 0;"));
        seen(5, inClass("private static final byte MOST = 48;"));
        seen(5, inClass("private static final int[] TABLE = new int[3];"));
        seen(5, inClass("static { }"));
        seen(6, inMethod("throw new RuntimeException();"));
        seen(6, inMethod("try { n = 1; } finally { n = 2; }"));
        seen(6, inMethod("synchronized (this) { n = 1; }"));
        seen(6, inClass("public synchronized int reset(int replica) { return 0; }"));
        seen(6, inMethod("assert n == 0;"));
        seen(6, inMethod("boolean b = this instanceof Object;"));
        seen(6, inMethod("Runnable r = () -> { };"));
        seen(6, inMethod("Runnable r = this::run;"));
        seen(6, inMethod("Object o = (Object) this;"));
    }

    private static void rules8To10AreSeen() throws IOException {
        seen(8, inClass("private int f() { return f(); }"));
        seen(8, inClass("private int f() { return g(); } private int g() { return f(); }"));
        seen(8, inMethod("while (n > 0) { n--; }"));
        seen(8, inMethod("do { n--; } while (n > 0);"));
        seen(8, inMethod("for (;;) { n++; }"));
        seen(8, inMethod("for (int i = 0; i < n; i++) { n++; }"));
        seen(8, inMethod("for (int i = 0; i < N; i--) { n++; }"));
        seen(8, inMethod("for (int i = 0; i < N; i++) { i = 0; }"));
        seen(8, inMethod("for (int i = 0; i < N; i++) { i -= 1; }"));
        seen(8, inMethod("for (int i = 0; i < N; i++) { i--; }"));
        seen(8, inMethod("for (int i = 0; i < N; i++) { --i; }"));
        seen(10, inClass("private int f(int a, int b, int c, int d, int e, int f, int g, int h) { return 0; }"));
        seen(10, inClass("private int f(int i) { return i; } private int g() { return f(1 + f(2)); }"));
        seen(10, inMethod("n = 0;\n".repeat(60)));
        StringBuilder fields = new StringBuilder();
        StringBuilder chain = new StringBuilder("private int f0() { return 0; } ");
        for (int i = 1; i <= 40; i++) {
            fields.append("private int field").append(i).append("; ");
        }
        for (int i = 1; i <= 6; i++) {
            chain.append("private int f").append(i).append("() { return f").append(i - 1).append("(); } ");
        }
        seen(10, inClass(fields.toString()));
        seen(10, inClass(chain.toString()));
    }

    /** Far more calls than the document allows: the answers are free then, but none may throw. */
    private static void rule7NoCallThrows() {
        int[] numbers = {Integer.MIN_VALUE, -48, -3, -2, -1, 0, 1, 2, 3, 4, 7, 8, 47, 48, 49, 63, 64, Integer.MAX_VALUE};
        CausalObjects x = new CausalObjects();
        for (int round = 0; round < 4; round++) {
            for (int a : numbers) {
                for (int b : numbers) {
                    for (String method : Pair.METHODS) {
                        Pair.callOf(x, method, a, b);
                    }
                }
            }
        }
        c.due("it still answers: all changes", x.known(0, 0) + x.known(0, 1) + x.known(0, 2), 48);
    }
}
