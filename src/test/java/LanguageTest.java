import java.io.IOException;
import java.nio.file.Files;
import java.nio.file.Path;
import java.util.Set;

/** The rules of LANGUAGE.md: the program keeps to them, and each way of leaving them is seen. */
public final class LanguageTest {
    private static final Path PROGRAM = Path.of("src/main/java/RadixBig.java");

    private final String program;

    private LanguageTest(String program) {
        this.program = program;
    }

    public static void main(String[] args) throws IOException {
        LanguageTest test = new LanguageTest(Files.readString(PROGRAM));
        Set<String> faults = Language.faultsOf(test.program);
        Scene.check("the program is outside " + faults, faults.isEmpty());
        test.oneClass();
        test.types();
        test.library();
        test.arrays();
        test.constants();
        test.statements();
        test.loops();
        test.calls();
        test.allowed();
        noCallThrows();
        Scene.end();
    }

    // A check that can't find a fault proves nothing, so each is shown one.
    private void oneClass() {
        sees(1, "package other; " + program);
        sees(1, program + " class Other { }");
        sees(1, program.replace("public final class", "public class"));
        seesMember(1, "private static class Inner { }");
        seesMember(1, "private enum Kind { ONE }");
        seesMember(1, "private interface Face { }");
        seesMember(1, "private record Pair(int x, int y) { }");
        seesMember(1, "int open;");
        seesMember(1, "protected int open() { return 0; }");
        seesMember(1, "private int add(int a) { return a; }");
        seesBody(1, "class Local { }");
    }

    private void types() {
        seesMember(2, "private double half;");
        seesMember(2, "private float half() { return 0; }");
        seesMember(2, "private int some(String name) { return 0; }");
        seesMember(2, "private int[][] table;");
        seesMember(2, "private <T> int some(T thing) { return 0; }");
        seesBody(2, "long x = (long) 1.5;");
        seesBody(2, "Integer x = 1;");
        seesBody(2, "var text = \"text\";");
    }

    private void library() {
        sees(3, "import java.util.List; " + program);
        sees(3, program.replace("class RadixBig", "class RadixBig extends Thread"));
        seesBody(3, "int x = Math.abs(1);");
        seesBody(3, "int x = Integer.MAX_VALUE;");
        seesBody(3, "int x = hashCode();");
        seesBody(3, "int x = this.hashCode();");
        seesBody(3, "java.util.Arrays.fill(left, 0);");
        seesBody(3, "long x = System.nanoTime();");
        seesMember(3, "@Deprecated private int old;");
    }

    private void arrays() {
        seesMember(4, "private final int[] some = {1, 2};");
        seesMember(4, "private final int[] some = new int[base];");
        seesMember(4, "private int[] some = new int[3];");
        seesMember(4, "private final int[] some = left;");
        seesMember(4, "private int[] some() { return left; }");
        seesBody(4, "int[] x = new int[3];");
        seesBody(4, "int[] x = left; x = right;");
        seesBody(4, "boolean x = left == right;");
        seesBody(4, "boolean x = left == null;");
        seesBody(4, "left = right;");
        seesBody(4, "Object x = new Object();");
    }

    private void constants() {
        seesMember(5, "private static int count;");
        seesMember(5, "private static int count = 1;");
        seesMember(5, "private static final boolean YES = true;");
        seesMember(5, "private static final int[] TABLE = new int[3];");
        seesMember(5, "private static final int FIRST = first();");
        seesMember(5, "static { }");
    }

    private void statements() {
        seesBody(6, "throw new RuntimeException();");
        seesBody(6, "try { } finally { }");
        seesBody(6, "synchronized (this) { }");
        seesBody(6, "assert base > 0;");
        seesBody(6, "boolean x = this instanceof Object;");
        seesBody(6, "Runnable x = () -> { };");
        seesBody(6, "Runnable x = this::radix;");
        seesBody(6, "Object x = (Object) this;");
        seesMember(6, "private int some() throws Exception { return 0; }");
    }

    private void loops() {
        seesMember(8, "private int some(int n) { return n > 0 ? some(n - 1) : 0; }");
        seesMember(8, "private int one(int n) { return two(n); } private int two(int n) { return one(n); }");
        seesBody(8, "while (true) { }");
        seesBody(8, "for (;;) { }");
        seesBody(8, "do { } while (base > 0);");
        seesBody(8, "int i = 0; while (i < 10) { }");
        seesBody(8, "for (int i = 0; i < 10; i--) { }");
        seesBody(8, "for (int i = 0; i != 10; i++) { }");
        seesBody(8, "for (int i = 0; i < 10; i++) { i = 0; }");
        seesBody(8, "for (int i = 0; i < 10 || base > 0; i++) { }");
    }

    private void calls() {
        seesMember(10, "private int some(int a, int b, int c, int d, int e, int f, int g, int h) { return 0; }");
        seesBody(10, "boolean x = isPlace(radix());");
        seesBody(10, "boolean x = isPlace(1 + radix());");
        seesBody(10, "int x = 0;\n" + "x++;\n".repeat(60));
        StringBuilder chain = new StringBuilder("private void deep6() { }");
        for (int k = 0; k < 6; k++) {
            chain.append(" private void deep").append(k).append("() { deep").append(k + 1).append("(); }");
        }
        seesMember(10, chain.toString());
        StringBuilder fields = new StringBuilder();
        for (int k = 0; k < 41; k++) {
            fields.append(" private int field").append(k).append(";");
        }
        seesMember(10, fields.toString());
    }

    /** What the rules leave is not told as a fault. */
    private void allowed() {
        seesNothing("int[] x = left; x[0] = x.length; clear(x);");
        seesNothing("int i = 10; do { i--; } while (i > 0);");
        seesNothing("outer: for (int i = 0; (i < 10) && base > 0; ++i) { continue outer; }");
        seesNothing("int sum = 0; for (int x : left) { sum += x; }");
        seesNothing("switch (base) { case 2: break; default: break; } long x = (long) base << 3 & 'a';");
    }

    private String withMember(String member) {
        return program.substring(0, program.lastIndexOf('}')) + member + " }";
    }

    private String withBody(String body) {
        return withMember("private void added() { " + body + " }");
    }

    private void seesMember(int rule, String member) {
        sees(rule, withMember(member));
    }

    private void seesBody(int rule, String body) {
        sees(rule, withBody(body));
    }

    private void sees(int rule, String source) {
        Set<String> faults = Language.faultsOf(source);
        boolean seen = faults.stream().anyMatch(fault -> fault.startsWith("rule " + rule + ":"));
        String tail = source.substring(Math.max(0, source.length() - 120));
        Scene.check(seen ? "" : "no fault of rule " + rule + " is seen in .. " + tail + " but " + faults, seen);
    }

    private void seesNothing(String body) {
        Set<String> faults = Language.faultsOf(withBody(body));
        Scene.check("a fault is seen in " + body + ": " + faults, faults.isEmpty());
    }

    /** Rule 7 holds in any state, so here an object goes far beyond its promised calls; its answers are free there. */
    private static void noCallThrows() {
        int[] wild = {Edge.MIN, -25, -24, -1, 0, 1, 2, 3, 4, 23, 24, 36, 37, 127, 128, 1000000, 1000001, Edge.MAX};
        int[] radices = {Edge.MIN, 2, 3, 10, 36, Edge.MAX};
        for (int radix : radices) {
            RadixBig big = new RadixBig(radix);
            for (int a : wild) {
                for (int b : wild) {
                    callAll(big, a, b, wild);
                }
            }
        }
        Scene.check("all calls have ended", true);
    }

    private static void callAll(RadixBig big, int a, int b, int[] wild) {
        String[] ofTwo = {"shift", "feed", "copy", "add", "subtract", "multiply", "multiplyLow", "power", "divisor",
            "digit", "compare", "lengthIn", "remainder"};
        String[] ofThree = {"set", "divide", "digitIn"};
        new Call("root", a).on(big);
        new Call("length", a).on(big);
        for (String method : ofTwo) {
            new Call(method, a, b).on(big);
        }
        for (int c : wild) {
            for (String method : ofThree) {
                new Call(method, a, b, c).on(big);
            }
        }
    }
}
