import java.lang.reflect.Array;
import java.lang.reflect.Field;
import java.lang.reflect.Modifier;
import java.nio.file.Files;
import java.nio.file.Path;
import java.util.ArrayList;
import java.util.Collections;
import java.util.IdentityHashMap;
import java.util.List;
import java.util.Set;

/**
 * The class keeps to the rules of ../shared/LANGUAGE.md, as far as a program can see it; and what
 * looks at them finds each of them broken in small sources that break it.
 */
public final class RulesTest {
    private static final Checks CHECKS = new Checks("RulesTest");
    private static final Path SOURCE = Path.of("src/main/java/QuotientQuoin.java");

    // A hundredth of the room that all calls of one run have, so that a run may make many objects.
    private static final int MOST_OBJECTS = 600_000 / 100;
    private static final int MOST_ELEMENTS = 7_300_000 / 100;

    public static void main(String[] args) throws Exception {
        String source = Files.readString(SOURCE);
        CHECKS.due("the rules", List.of(), Rules.findings(source));
        CHECKS.due("files of the program", 1, Math.toIntExact(
                Files.walk(Path.of("src/main")).filter(Files::isRegularFile).count()));
        keptInAll(source);
        brokenInSmall();
        brokenInTheClass(source);
        room();
        CHECKS.end();
    }

    // ---- what is allowed isn't found

    private static void keptInAll(String source) throws Exception {
        kept("a row of constants", "private static final int[] ROW = {1, 2};");
        kept("a loop up", "private int f(int n) { int s = 0; for (int i = 0; i < n; i++) { s += i; } return s; }");
        kept("a loop down", "private void f(int n) { int i = n; while (i > 0) { i -= 2; } }");
        kept("a constant divisor", "private static final int K = 3; private int f(int n) { return n / K % 5; }");
        kept("a throw", "private void f() { throw new IllegalStateException(\"no\"); }");
        kept("a catch", "private void g() { throw new IllegalStateException(); }"
                + " private int f() { try { g(); } catch (IllegalStateException e) { return 1; } return 0; }");
        kept("numbers of the library", "private int f(int n) { return Math.max(n, Integer.bitCount(n)); }");
    }

    private static void kept(String what, String members) throws Exception {
        CHECKS.due(what, List.of(), Rules.findings(classWith(members)));
    }

    private static String classWith(String members) {
        return "public final class QuotientQuoin {\n" + members + "\n}\n";
    }

    // ---- what isn't allowed is found

    private static void broken(int rule, String members) throws Exception {
        brokenFile(rule, classWith(members));
    }

    private static void brokenFile(int rule, String source) throws Exception {
        List<String> findings = Rules.findings(source);
        boolean found = findings.stream().anyMatch(one -> one.startsWith("rule " + rule + ":"));
        CHECKS.due("rule " + rule + " found broken, with " + findings + ", in " + source, true, found);
    }

    private static void brokenInSmall() throws Exception {
        brokenFile(1, "package a; public final class QuotientQuoin { }");
        brokenFile(1, "public class QuotientQuoin { }");
        brokenFile(1, "public final class QuotientQuoin { } class Other { }");
        broken(2, "private class Inner { }");
        broken(2, "private void f() { class Local { } }");
        broken(2, "private interface One { int of(int n); } private One f() { return n -> n; }");
        broken(2, "private interface One { int of(int n); } private One f() { return Math::abs; }");
        typesAndLibrary();
        statics();
        exceptions();
        throwsByItself();
        callsAndLoops();
        statements();
        sizes();
    }

    private static void typesAndLibrary() throws Exception {
        broken(3, "private Object field;");
        broken(3, "private java.util.Map<Integer, Integer> field;");
        broken(3, "private java.util.List<String> field;");
        broken(3, "private String[] field;");
        broken(3, "private int[][][] field;");
        broken(3, "private QuotientQuoin[][] field;");
        broken(3, "private Long f() { return null; }");
        broken(3, "private void f() { var all = new Object(); }");
        broken(4, "private double f(double d) { return Math.sqrt(d); }");
        broken(4, "private double f(double d) { return Math.abs(d); }");
        broken(4, "private int f(int n) { return Math.addExact(n, n); }");
        broken(4, "private int f() { return Integer.MAX_VALUE; }");
        broken(4, "private int f(Integer n) { return n.hashCode(); }");
        broken(4, "private String f(String s) { return s.trim(); }");
        broken(4, "private int f(String s) { return s.indexOf(\"a\"); }");
        broken(4, "private int f(int[] row) { return java.util.Arrays.hashCode(row); }");
        broken(4, "private void f(int[] row) { java.util.Arrays.sort(row); }");
        broken(4, "private long f() { return System.nanoTime(); }");
        broken(4, "private void f() { System.out.println(); }");
        broken(4, "private int f() { return System.identityHashCode(this); }");
        broken(4, "private int f() { return new java.util.Random().nextInt(); }");
        broken(4, "private String f() { return \"\u00e9\"; }");
        brokenFile(4, "import java.util.HashMap; public final class QuotientQuoin { }");
    }

    private static void statics() throws Exception {
        broken(5, "private static int[] row = {1};");
        broken(5, "private static final int[] ROW = new int[3];");
        broken(5, "private static final QuotientQuoin ONE = new QuotientQuoin();");
        broken(5, "private void f() { } static { new QuotientQuoin().f(); }");
        broken(5, "private static final int[] ROW = {1}; private void f() { ROW[0] = 2; }");
        broken(5, "private static final int[] ROW = {1}; private void f() { ROW[0] += 2; }");
        broken(5, "private static final int[] ROW = {1}; private void f() { ROW[0]++; }");
    }

    private static void exceptions() throws Exception {
        broken(6, "private void f() { throw new ArrayIndexOutOfBoundsException(); }");
        broken(6, "private void f(int n) { throw new IllegalStateException(\"a\" + n); }");
        broken(6, "private void f(IllegalStateException e) { throw e; }");
        broken(6, "public QuotientQuoin() { throw new IllegalStateException(); }");
        broken(6, "private void f() { try { f(); } finally { f(); } }");
        broken(6, "private void f() { try { f(); } catch (NullPointerException e) { } }");
        broken(6, "private void f() { try { throw new IllegalStateException(); } catch (IllegalStateException e) { } }");
        broken(6, "private void g() { } private String f() { try { g(); } catch (IllegalStateException e) { return e.getMessage(); } return null; }");
        broken(6, "private static class R implements AutoCloseable { public void close() { } }"
                + " private void f() { try (R r = new R()) { } }");
        broken(6, "private void f() { assert true; }");
        broken(6, "private void f() { synchronized (this) { } }");
        broken(6, "public String toString() { return null; }");
        broken(6, "private boolean f(String s, String t) { return s == t; }");
        broken(6, "private boolean f(Integer s, Integer t) { return s != t; }");
    }

    private static void throwsByItself() throws Exception {
        broken(7, "private void g() { } private void f() { try { g(); } catch (RuntimeException e) { } }");
        broken(7, "private void g() { } private void f() { try { g(); } catch (IndexOutOfBoundsException e) { } }");
        broken(7, "private int f(int n) { return 1 / n; }");
        broken(7, "private int f(int n) { return 1 % n; }");
        broken(7, "private int f(int n) { n /= n; return n; }");
        broken(7, "private final int[] row; public QuotientQuoin(int n) { row = new int[n]; }");
        broken(7, "private interface Shape { } private record Disc(int r) implements Shape { }"
                + " private Disc f(Shape s) { return (Disc) s; }");
    }

    private static void callsAndLoops() throws Exception {
        broken(8, "private static int f(int n) { return f(n - 1); }");
        broken(8, "private static int f(int n) { return g(n); } private static int g(int n) { return f(n); }");
        broken(9, "private void f() { while (true) { } }");
        broken(9, "private void f() { for (;;) { } }");
        broken(9, "private void f(boolean b) { do { } while (b); }");
        broken(9, "private void f(int n) { for (int i = 0; i < n; i--) { } }");
        broken(9, "private void f(int n) { for (int i = 0; i != n; i++) { } }");
        broken(9, "private void f(int n) { for (int i = 0; i < n; i += n) { } }");
        broken(9, "private void f(int n) { for (int i = 0; i < n; i++) { i = 0; } }");
        broken(9, "private void f(int n) { int i = 0; while (i < n) { if (n == 3) { continue; } i++; } }");
        broken(9, "private void f(int n) { int i = 0; while (i < n) { if (n == 3) { i++; } } }");
        broken(11, "private int a() { return b(); } private int b() { return c(); } private int c() { return d(); }"
                + " private int d() { return e(); } private int e() { return f(); } private int f() { return g(); }"
                + " private int g() { return h(); } private int h() { return i(); } private int i() { return 0; }");
    }

    private static void statements() throws Exception {
        broken(10, "private String f(String s) { return s + 1; }");
        broken(10, "private String f(String s) { s += 1; return s; }");
        broken(10, "private int f(String s) { switch (s) { default: return 1; } }");
        broken(10, "private int f(String s) { return switch (s) { default -> 1; }; }");
        broken(13, "private native int f();");
        broken(12, "private int[] f() { return new int[3]; }");
        broken(12, "private int[] f() { int[] row = {1}; return row; }");
        broken(12, "private QuotientQuoin f() { return new QuotientQuoin(); }");
    }

    private static void sizes() throws Exception {
        broken(11, "private void f(int a, int b, int c, int d, int e, int f, int g, int h) { }");
        broken(11, "private void f() {" + "\n".repeat(60) + "}");
        StringBuilder fields = new StringBuilder();
        for (int i = 0; i < 21; i++) {
            fields.append("private int f").append(i).append(';');
        }
        broken(11, fields.toString());
        StringBuilder inside = new StringBuilder();
        for (int i = 0; i < 12; i++) {
            inside.append("private static class C").append(i).append(" { }");
        }
        broken(11, inside.toString());
    }

    // ---- the same in the class itself, so that it is looked at up to its last line

    private static void brokenInTheClass(String source) throws Exception {
        int end = source.lastIndexOf('}', source.lastIndexOf('}') - 1);
        brokenFile(3, source.substring(0, end) + "Object last() { return this; }" + source.substring(end));
        brokenFile(9, source.substring(0, end) + "void last() { while (firsts != nexts) { } }" + source.substring(end));
        brokenFile(12, source.substring(0, end) + "int[] last() { return new int[3]; }" + source.substring(end));
    }

    // ---- rule 12: what an object keeps

    private static void room() throws Exception {
        QuotientQuoin quoin = new QuotientQuoin();
        int[] before = roomOf(quoin);
        CHECKS.due("few objects: " + before[0], true, (before[0] <= MOST_OBJECTS));
        CHECKS.due("few fields and elements: " + before[1], true, (before[1] <= MOST_ELEMENTS));
        for (int i = 0; i < 5; i++) {
            quoin.grow(0);
        }
        for (int i = 0; i < 222; i++) {
            quoin.add(0, 18 * i, 7);
        }
        for (int i = 0; i < 5; i++) {
            quoin.grow(1);
        }
        for (int i = 0; i < 100; i++) {
            quoin.merge(1, 0);
            quoin.clear(1);
        }
        int[] after = roomOf(quoin);
        CHECKS.due("objects after calls", before[0], after[0]);
        CHECKS.due("fields and elements after calls", before[1], after[1]);
    }

    /** How many objects and arrays, and how many fields and elements, are reached from an object. */
    private static int[] roomOf(Object start) throws IllegalAccessException {
        Set<Object> seen = Collections.newSetFromMap(new IdentityHashMap<>());
        List<Object> open = new ArrayList<>(List.of(start));
        seen.add(start);
        int parts = 0;
        while (!open.isEmpty()) {
            Object object = open.remove(open.size() - 1);
            List<Object> inside = object.getClass().isArray() ? elementsOf(object) : fieldsOf(object);
            parts += inside.size();
            for (Object part : inside) {
                if (part != null && !(part instanceof Number) && !(part instanceof Boolean) && seen.add(part)) {
                    open.add(part);
                }
            }
        }
        return new int[] {seen.size(), parts};
    }

    private static List<Object> elementsOf(Object array) {
        List<Object> elements = new ArrayList<>();
        for (int i = 0; i < Array.getLength(array); i++) {
            elements.add(Array.get(array, i));
        }
        return elements;
    }

    private static List<Object> fieldsOf(Object object) throws IllegalAccessException {
        List<Object> fields = new ArrayList<>();
        for (Field field : object.getClass().getDeclaredFields()) {
            if (!Modifier.isStatic(field.getModifiers())) {
                field.setAccessible(true);
                fields.add(field.get(object));
            }
        }
        return fields;
    }
}
