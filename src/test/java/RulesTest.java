import java.io.IOException;
import java.nio.file.Files;
import java.nio.file.Path;
import java.util.List;

/**
 * The class keeps to LANGUAGE.md, as far as Rules can tell; and Rules finds at least one breach of
 * each rule that can be judged from the text, and none where there is none.
 */
public final class RulesTest {
    private static final Path SOURCE = Path.of("src/main/java/NetworkStates.java");

    private static final Due due = new Due();

    public static void main(String[] args) throws IOException {
        List<String> breaches = Rules.breachesOf(Files.readString(SOURCE));
        due.holds("the class keeps to the rules: " + breaches, breaches.isEmpty());
        kept();
        oneClass();
        types();
        library();
        arrays();
        staticFields();
        ruledOutByName();
        divisors();
        loops();
        recursion();
        shortMethods();
        due.end();
    }

    private static String withMember(String member) {
        return "public final class NetworkStates {\n"
                + "private static final int MOST = 12;\n"
                + "private static final int NOTHING = 0;\n"
                + "private final int[] row = new int[MOST];\n"
                + "private int count;\n"
                + member + "\n"
                + "private static int twice(int a) { return 2 * a; }\n"
                + "public int clear() { return count; }\n}\n";
    }

    private static String withBody(String body) {
        return withMember("public int unlink(int i) { " + body + " return i; }");
    }

    private static void found(int rule, String source) throws IOException {
        List<String> breaches = Rules.breachesOf(source);
        boolean seen = breaches.stream().anyMatch(b -> b.startsWith("rule " + rule + ":"));
        due.holds("a breach of rule " + rule + " is found, not " + breaches + " in " + source, seen);
    }

    private static void inMember(int rule, String member) throws IOException {
        found(rule, withMember(member));
    }

    private static void inBody(int rule, String body) throws IOException {
        found(rule, withBody(body));
    }

    private static void keptIn(String source) throws IOException {
        List<String> breaches = Rules.breachesOf(source);
        due.holds("no breach is found, not " + breaches + " in " + source, breaches.isEmpty());
    }

    private static void kept() throws IOException {
        keptIn(withMember(""));
        keptIn(withMember("public NetworkStates() { count = 0; }"));
        keptIn(withMember("private final byte[] more = new byte[3];"));
        keptIn(withMember("private static final long WIDE = 1L << 48;"));
        keptIn(withMember("private static int sumOf(int[] some, int n) { return n > 0 ? some[0] : 0; }"));
        keptIn(withBody("this.count = (int) 5L;"));
        keptIn(withBody("for (int k = 0; k < row.length; k++) { row[k] = k; }"));
        keptIn(withBody("int some = twice(i) + twice(count); count = some / 2 % MOST;"));
        keptIn(withBody("switch (i) { case 1: count = 2; break; default: count = 3; }"));
        keptIn(withBody("char c = 'a'; boolean b = c > i || !(i == 3); count += b ? 1 : 0;"));
    }

    private static void oneClass() throws IOException {
        found(1, "package some;\n" + withMember(""));
        found(1, withMember("") + "final class Another { }\n");
        found(1, withMember("").replace("public final", "public"));
        found(1, withMember("").replace("public final", "final"));
        found(1, "public interface NetworkStates { }");
        found(1, "public enum NetworkStates { }");
        found(1, "public record NetworkStates() { }");
        inMember(1, "private static final class Inside { }");
        inMember(1, "private interface Inside { }");
        inMember(1, "private enum Inside { }");
        inMember(1, "private record Inside(int a) { }");
        inBody(1, "class Inside { }");
        inMember(1, "int seen;");
        inMember(1, "public static final int SEEN = 3;");
        inMember(1, "protected int seen() { return 1; }");
        inMember(1, "int seen() { return 1; }");
        inMember(1, "public static int seen() { return 1; }");
        inMember(1, "private int clear(int a) { return a; }");
        inMember(1, "NetworkStates() { }");
    }

    private static void types() throws IOException {
        inBody(2, "double d = 1;");
        inBody(2, "float f = 1;");
        inBody(2, "count = (int) 1.5;");
        inBody(2, "count = (int) (i * 2f);");
        inBody(2, "int[][] rows; count = 1;");
        inBody(2, "String text;");
        inBody(2, "count = \"text\".length();");
        inBody(2, "var some = 3;");
        inBody(2, "NetworkStates another = this;");
        inMember(2, "private Object some;");
        inMember(2, "private int asked(NetworkStates other) { return other.count; }");
        inMember(2, "private double asked() { return 1; }");
        found(2, withMember("").replace("NetworkStates {", "NetworkStates implements Runnable {")
                .replace("public int clear", "public void run() { }\npublic int clear"));
    }

    private static void library() throws IOException {
        found(3, "import java.util.List;\n" + withMember(""));
        found(3, "import static java.lang.Math.max;\n" + withMember(""));
        inBody(3, "count = Math.max(i, 1);");
        inBody(3, "count = Integer.MAX_VALUE;");
        inBody(3, "count = java.lang.Integer.bitCount(i);");
        inBody(3, "count = hashCode();");
        inBody(3, "count = this.hashCode();");
        inBody(3, "boolean same = equals(this);");
        inBody(3, "int[] copy = row.clone();");
        inBody(3, "System.out.println();");
        inMember(3, "@Deprecated private int some;");
        inMember(3, "@Override public int hashCode() { return super.hashCode(); }");
        inMember(3, "public NetworkStates() { super(); }");
    }

    private static void arrays() throws IOException {
        inMember(4, "private final int[] some = {1, 2};");
        inMember(4, "private final int[] some = new int[] {1, 2};");
        inMember(4, "private final int[] some = new int[0];");
        inMember(4, "private final int[] some = new int[NOTHING];");
        inMember(4, "private final int[] some = new int[twice(3)];");
        inMember(4, "private final int[] some = new int[count];");
        inMember(4, "private int[] some = new int[3];");
        inMember(4, "private final int[] some = row;");
        inMember(4, "private int[] some() { return row; }");
        inMember(4, "{ count = 3; }");
        inBody(4, "int[] some = new int[3];");
        inBody(4, "int[] some = {1, 2};");
        inBody(4, "int[] some; some = row;");
        inBody(4, "boolean same = row == row;");
        inBody(4, "boolean none = row != null;");
        inBody(4, "new NetworkStates();");
        inBody(4, "count = new NetworkStates().count;");
    }

    private static void staticFields() throws IOException {
        inMember(5, "private static int some;");
        inMember(5, "private static int some = 3;");
        inMember(5, "private static final int SOME = twice(3);");
        inMember(5, "private static final boolean SOME = true;");
        inMember(5, "private static final short SOME = 3;");
        inMember(5, "private static final int[] SOME = new int[3];");
        inMember(5, "static { }");
    }

    private static void ruledOutByName() throws IOException {
        inBody(6, "if (i > 3) { throw new RuntimeException(); }");
        inBody(6, "try { count = 1; } finally { count = 2; }");
        inBody(6, "synchronized (this) { count = 1; }");
        inBody(6, "assert i > 0;");
        inBody(6, "boolean b = (Object) row instanceof int[];");
        inBody(6, "Runnable r = () -> { };");
        inBody(6, "Runnable r = this::clear;");
        inBody(6, "Object o = (Object) row;");
        inMember(6, "private synchronized int some() { return 1; }");
        inMember(6, "private int some() throws RuntimeException { return 1; }");
        inMember(11, "private native int some();");
    }

    private static void divisors() throws IOException {
        inBody(7, "count = 5 / i;");
        inBody(7, "count = 5 % count;");
        inBody(7, "count = 5 / NOTHING;");
        inBody(7, "count /= i;");
        inBody(7, "count %= i;");
    }

    private static void loops() throws IOException {
        inBody(8, "while (count < i) { count++; }");
        inBody(8, "do { count++; } while (count < i);");
        inBody(8, "for (int r : row) { count += r; }");
        inBody(8, "for (;;) { if (i > 3) { break; } }");
        inBody(8, "for (int k = 0; k < i; k++) { k--; }");
        inBody(8, "for (int k = 0; k < i; k++) { i = i + 1; }");
        inBody(8, "for (int k = 0; k < count; k++) { count += 1; }");
        inBody(8, "for (int k = 0; k < i; k += count) { row[0] = k; }");
        inBody(8, "for (int k = 0; k <= i; k++) { row[0] = k; }");
        inBody(8, "for (int k = 0; k != i; k++) { row[0] = k; }");
        inBody(8, "for (int k = 0; k < k + 1; k++) { row[0] = k; }");
        inBody(8, "for (int k = 0; k < twice(i); k++) { row[0] = k; }");
        inBody(8, "for (int k = 9; k < i; k--) { row[0] = k; }");
    }

    private static void recursion() throws IOException {
        inMember(8, "private int some(int a) { return a < 1 ? 0 : some(a - 1); }");
        inMember(8, "private int some(int a) { return a < 1 ? 0 : this.some(a - 1); }");
        inMember(8, "private int one(int a) { return a < 1 ? 0 : other(a - 1); }\n"
                + "private int other(int a) { return one(a); }");
    }

    private static void shortMethods() throws IOException {
        inMember(10, "private int some(int a, int b, int c, int d, int e, int f, int g, int h) { return 1; }");
        keptIn(withMember("private int some(int a, int b, int c, int d, int e, int f, int g) { return 1; }"));
        inBody(10, "count = twice(twice(i));");
        inBody(10, "count = twice(1 + (i > 1 ? twice(3) : 2));");
        inBody(10, "count = twice(row[twice(1)]);");
        inBody(10, "count = 1;\n".repeat(61));
        keptIn(withBody("count = 1;\n".repeat(59)));
        keptIn(withMember(chain(6)));
        inMember(10, chain(7));
        inMember(10, fields(39));
        keptIn(withMember(fields(38)));
    }

    /** So many methods, each of which but the last calls the next. */
    private static String chain(int length) {
        StringBuilder text = new StringBuilder();
        for (int m = 1; m < length; m++) {
            text.append("private int m" + m + "(int a) { return m" + (m + 1) + "(a); }\n");
        }
        return text + "private int m" + length + "(int a) { return a; }";
    }

    private static String fields(int count) {
        StringBuilder text = new StringBuilder();
        for (int f = 0; f < count; f++) {
            text.append("private int f" + f + ";\n");
        }
        return text.toString();
    }
}
