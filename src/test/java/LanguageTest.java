import java.io.IOException;
import java.nio.file.Files;
import java.nio.file.Path;
import java.util.Set;

/** The program keeps to what LANGUAGE.md says, as far as its text shows that. */
public final class LanguageTest {
    private static final Checks checks = new Checks();

    /** The number of a rule, and members of a class A that break it. */
    private static final String[][] BROKEN = {
        {"1", "public int size() { return 0; } private int size(int x) { return x; }"},
        {"1", "private final class Inner { }"},
        {"1", "public static final class Seen { }"},
        {"2", "interface F { int f(); } private void f() { F f = () -> 1; }"},
        {"2", "interface F { int f(); } private void f() { F f = A::g; }"
                + " private static int g() { return 1; }"},
        {"3", "private java.util.HashMap<String, String> map;"},
        {"3", "private String[][] texts;"},
        {"3", "private int[][][] numbers;"},
        {"4", "private long f() { return System.nanoTime(); }"},
        {"4", "private int f(int x) { return Math.addExact(x, 1); }"},
        {"4", "private boolean f() { return new java.util.Random(1L).nextBoolean(); }"},
        {"5", "private static int count = 0;"},
        {"5", "private static final int X; static { X = 1; }"},
        {"6", "public A(int x) { if (x < 0) { throw new IllegalStateException(); } }"},
        {"6", "private void f(String s) { throw new IllegalStateException(s); }"},
        {"6", "private void f() { throw new NullPointerException(); }"},
        {"6", "private void f(RuntimeException e) { throw e; }"},
        {"6", "private void f() { int x = 0; try { x++; } finally { x--; } }"},
        {"6", "private void f() { synchronized (this) { } }"},
        {"6", "private void f(int x) { assert x > 0; }"},
        {"6", "@Override public String toString() { return \"\"; }"},
        {"8", "private int f(int x) { return x > 0 ? f(x - 1) : 0; }"},
        {"8", "private void f() { g(); } private void g() { f(); }"},
        {"9", "private int f(int x) { while (true) { if (x++ > 5) { return x; } } }"},
        {"9", "private int f(int x) { for (;;) { if (x++ > 5) { return x; } } }"},
        {"10", "private String f(int x) { return \"x\" + x; }"},
        {"10", "private String f(String x) { x += \"x\"; return x; }"},
        {"11", "private void f(int a, int b, int c, int d, int e, int g, int h, int i) { }"},
        {"11", "private void f() { " + "\n".repeat(60) + " }"},
        {"11", numbered(21, "private int x#;")},
        {"11", numbered(12, "private static final class B# { }")},
        {"11", chain(9)},
    };

    /** Members that are as many, as long or as deep as the rules let them be. */
    private static final String[] KEPT = {
        "public A() { }",
        "private void f(int a, int b, int c, int d, int e, int g, int h) { }",
        "private void f() { " + "\n".repeat(59) + " }",
        numbered(20, "private int x#;"),
        numbered(11, "private static final class B# { }"),
        chain(8),
        "private int f(int[][] x) { for (int[] row : x) { return row[0]; } return 0; }",
        "private void f(int x) { if (x < 0) { throw new IllegalStateException(\"less\"); } }",
        "private int f() { try { g(); } catch (IllegalStateException e) { return 0; } return 1; }"
                + " private void g() { throw new IllegalStateException(); }",
    };

    public static void main(String[] args) throws IOException {
        Path program = Path.of("src/main/java/WordClassLearner.java");
        checks.equal("the program",
                Language.complaints("WordClassLearner", Files.readString(program)), Set.of());
        for (String[] broken : BROKEN) {
            Set<String> complaints = complaintsOf(broken[1]);
            checks.equal("rule " + broken[0] + " of " + broken[1] + " in " + complaints,
                    complaints.stream().anyMatch(it -> it.startsWith(broken[0] + ": ")), true);
        }
        for (String kept : KEPT) {
            checks.equal("all rules of " + kept, complaintsOf(kept), Set.of());
        }
        checks.end();
    }

    private static Set<String> complaintsOf(String members) throws IOException {
        return Language.complaints("A", "public final class A { " + members + " }");
    }

    private static String numbered(int count, String member) {
        StringBuilder text = new StringBuilder();
        for (int number = 1; number <= count; number++) {
            text.append(member.replace("#", "" + number)).append(' ');
        }
        return text.toString();
    }

    /** So many methods, each of which calls the next one. */
    private static String chain(int count) {
        StringBuilder text = new StringBuilder();
        for (int number = 1; number < count; number++) {
            text.append("private void f" + number + "() { f" + (number + 1) + "(); } ");
        }
        return text.append("private void f" + count + "() { }").toString();
    }
}
