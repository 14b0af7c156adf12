import java.io.IOException;
import java.nio.file.Files;
import java.nio.file.Path;
import java.util.Set;

/** The source keeps to the rules of LANGUAGE.md, and sources that do not are seen as such. */
public final class RulesTest {
    private final Check c = new Check();

    public static void main(String[] args) throws IOException {
        RulesTest t = new RulesTest();
        String source = Files.readString(Path.of("src/main/java/MovingList.java"));
        t.c.dueText("what the class breaks", "[]", Rules.brokenIn(source).toString());
        t.texts(source);
        t.bad();
        t.c.end();
    }

    /** The signs that rule 4 leaves to texts stand in all of the file; it has no package line. */
    private void texts(String source) {
        c.due("signs are 1 to 127", true, source.chars().allMatch(sign -> sign > 0 && sign < 128));
        c.due("no package line", false, source.startsWith("package"));
    }

    private void bad() throws IOException {
        breaks(1, "public static class A { }");
        breaks(1, "private final class A { }");
        breaks(2, "void a() { class A { } }");
        breaks(2, "private enum A { B; final double c = 1; }");
        breaks(2, "Runnable a() { return () -> { }; }");
        breaks(2, "Runnable a() { return this::notify; }");
        breaks(3, "private Object a;");
        breaks(3, "private java.util.HashMap<Integer, Integer> a;");
        breaks(4, "void a() { System.out.println(); }");
        breaks(4, "int a() { return Math.addExact(1, 2); }");
        breaks(4, "void a() { new Object(); }");
        breaks(5, "private static int a;");
        breaks(5, "static { int a = 1; }");
        breaks(6, "MovingList() { throw new IllegalStateException(); }");
        breaks(6, "void a(int b) { throw new IllegalStateException(String.valueOf(b)); }");
        breaks(6, "void a(int[] b) { try { b[0] = 1; } catch (RuntimeException e) { } }");
        breaks(6, "void a() { try { } finally { } }");
        breaks(6, "synchronized void a() { }");
        breaks(6, "void a() { synchronized (this) { } }");
        breaks(6, "void a(int b) { assert b > 0; }");
        breaks(6, "boolean a(String b, String d) { return b == d; }");
        breaks(6, "public String toString() { return null; }");
        breaks(8, "int a(int b) { return b == 0 ? 0 : d(b - 1); } int d(int b) { return a(b); }");
        breaks(9, "void a() { for (;;) { } }");
        breaks(9, "void a() { while (true) { } }");
        breaks(10, "String a(String b) { return b + 1; }");
        breaks(11, "void a(int b, int d, int e, int f, int g, int h, int i, int j) { }");
        breaks(11, "void a() {" + "\n".repeat(60) + "}");
        breaks(11, "int a, b, d, e, f, g, h, i, j, k, l, m, n, o, p, q, r, s, t, u, v;");
        breaks(11, chain(9));
        breaks(11, "static class A { }".repeat(12).replace("A", "A_"));
        breaks(12, "private enum A { B } int a() { return A.values().length; }");
        c.dueText("eight deep", "[]", Rules.brokenIn(around(chain(8))).toString());
    }

    private static String chain(int n) {
        StringBuilder text = new StringBuilder("void a").append(n).append("() { }");
        for (int k = n - 1; k > 0; k--) {
            text.append(" void a").append(k).append("() { a").append(k + 1).append("(); }");
        }
        return text.toString();
    }

    private static String around(String member) {
        StringBuilder text = new StringBuilder("public final class MovingList {\n");
        // Classes of one name can't stand together, so each gets a number.
        int n = 0;
        for (String part : member.split("_", -1)) {
            text.append(n == 0 ? "" : "_" + n).append(part);
            n++;
        }
        return text.append("\n}\n").toString();
    }

    private void breaks(int rule, String member) throws IOException {
        Set<String> broken = Rules.brokenIn(around(member));
        boolean seen = false;
        for (String text : broken) {
            seen |= text.startsWith(rule + " ");
        }
        c.due("rule " + rule + " is seen broken in " + member + " " + broken, true, seen);
    }
}
