import com.sun.source.tree.CompilationUnitTree;
import com.sun.source.util.JavacTask;
import com.sun.source.util.Trees;
import java.net.URI;
import java.nio.file.Files;
import java.nio.file.Path;
import java.util.ArrayList;
import java.util.List;
import java.util.TreeSet;
import java.util.regex.Matcher;
import java.util.regex.Pattern;
import javax.tools.JavaCompiler;
import javax.tools.SimpleJavaFileObject;
import javax.tools.ToolProvider;

/**
 * What of LANGUAGE.md can be seen in SlipDesk.java, read as the compiler reads it, and the face as DOC.md tells it.
 * Each rule is shown a breach of it first, so that a look that sees nothing fails, too. Argument: where the project is.
 */
public final class LanguageTest {
    /** The public members, as LanguageRules tells those of a class. */
    private static final String FACE = """
            SlipDesk()
            int agree(int,int)
            int ahead(int,int)
            int back(int)
            int cancel(int)
            int claim(int)
            int count(int)
            int day()
            int end(int)
            int feed(int,int,int,int,int)
            int firm()
            int force(int)
            int full()
            int half(int)
            int image(int)
            int least(int,int)
            int line(int)
            int look(int)
            int need(int,int,int)
            int note(int,int)
            int offer(int,int)
            int order(int)
            int out(int)
            int pence(int,int)
            int rests(int,int,int)
            int rows(int)
            int rule()
            int ruled(int)
            int seasons(int,int,int,int)
            int seed(int)
            int sizes(int,int)
            int slip()
            int standing(int)
            int taken(int)
            int undo()
            int worst(int)
            int would(int,int)
            int write(int,int)
            static final int NONE = -1""";

    private static int wrong = 0;
    private static int looks = 0;

    private static final class Source extends SimpleJavaFileObject {
        private final String text;

        Source(String text) {
            super(URI.create("string:///SlipDesk.java"), Kind.SOURCE);
            this.text = text;
        }

        @Override
        public CharSequence getCharContent(boolean ignoreEncodingErrors) {
            return text;
        }
    }

    public static void main(String[] args) throws Exception {
        Path root = Path.of(args.length > 0 ? args[0] : ".").toAbsolutePath().normalize();
        String text = Files.readString(root.resolve("src/main/java/SlipDesk.java"));
        Path doc = root.resolveSibling("shared").resolve("DOC.md");
        if (Files.exists(doc) && !faceOf(Files.readString(doc)).equals(FACE)) {
            fail("the document tells another face than this test");
        }
        for (String fault : faults(text)) {
            fail(fault);
        }
        breaches(text);
        System.out.println("LanguageTest: " + looks + " breaches shown, " + wrong + " faults");
        if (wrong > 0) {
            System.exit(1);
        }
    }

    private static void fail(String what) {
        wrong++;
        System.out.println(what);
    }

    /** The public members that the document tells, in the same form. */
    private static String faceOf(String doc) {
        Matcher members = Pattern.compile("(?m)^    public (.*?);$").matcher(doc);
        TreeSet<String> face = new TreeSet<>();
        while (members.find()) {
            String member = members.group(1);
            face.add(member.contains("(") ? member.replaceAll("(\\w+) \\w+([,)])", "$1$2").replace(", ", ",") : member);
        }
        return String.join("\n", face);
    }

    private static List<String> faults(String text) throws Exception {
        List<String> faults = new ArrayList<>();
        JavaCompiler compiler = ToolProvider.getSystemJavaCompiler();
        JavacTask task = (JavacTask) compiler.getTask(null, null, d -> { }, List.of("-proc:none"), null,
                List.of(new Source(text)));
        CompilationUnitTree unit = task.parse().iterator().next();
        task.analyze();
        LanguageRules rules = new LanguageRules(Trees.instance(task), unit, faults);
        rules.scan(unit, null);
        rules.judgeCalls();
        if (!rules.face().equals(FACE)) {
            faults.add("rule 1: the face is\n" + rules.face() + "\nnot\n" + FACE);
        }
        if (!text.chars().allMatch(c -> c < 128)) {
            faults.add("rule 4: a sign beyond 127");
        }
        return faults;
    }

    /** The program with a breach put in must be refused by that rule. */
    private static void refused(int rule, String text) throws Exception {
        looks++;
        String begin = "rule " + rule + ":";
        if (faults(text).stream().noneMatch(f -> f.startsWith(begin))) {
            fail("a breach of rule " + rule + " is not seen (" + looks + ")");
        }
    }

    private static void breaches(String text) throws Exception {
        String head = text.substring(0, text.lastIndexOf('}'));
        String[][] members = {
            {"1", "public int more() { return 0; }"},
            {"1", "int more() { return 0; }"},
            {"1", "int seen;"},
            {"1", "private int day(int n) { return n; }"},
            {"1", "public static final class More { }"},
            {"2", "private final class More { }"},
            {"2", "private interface F { int f(int n); } private F f() { return n -> n; }"},
            {"2", "private interface F { int f(int n); } private F f() { return Math::abs; }"},
            {"2", "private void local() { class More { } }"},
            {"2", "private interface F { } private F f() { return new F() { }; }"},
            {"3", "private Object thing;"},
            {"3", "private int[][][] deep;"},
            {"3", "private Book[][] books;"},
            {"3", "private long f(Long n) { return n; }"},
            {"4", "private int f(int n) { return Math.addExact(n, 1); }"},
            {"4", "private boolean f(String s) { return s.startsWith(s); }"},
            {"4", "private void f() { System.gc(); }"},
            {"5", "private static int total;"},
            {"5", "private static final long[][] WIDE = {{1}};"},
            {"5", "private static final int[] MADE = new int[3];"},
            {"5", "static { }"},
            {"6", "private void f() { throw new IllegalStateException(); }"},
            {"6", "private void f() { try { day(); } finally { day(); } }"},
            {"6", "private synchronized void f() { }"},
            {"6", "private void f() { synchronized (this) { day(); } }"},
            {"6", "private void f() { assert 1 < 2; }"},
            {"6", "private boolean f(String a, String b) { return a == b; }"},
            {"6", "private int f() { return desk.hashCode(); }"},
            {"7", "private int f(int n) { return 7 / n; }"},
            {"7", "private int f(int n) { return 7 % (n + 1); }"},
            {"7", "private int f(int n) { int m = 9; m /= n; return m; }"},
            {"8", "private int f(int n) { return f(n - 1); }"},
            {"8", "private int f(int n) { return g(n); } private int g(int n) { return f(n); }"},
            {"9", "private void f() { for (;;) { day(); } }"},
            {"9", "private void f() { while (day() > 0) { day(); } }"},
            {"9", "private void f(int n) { for (int i = 0; i < n;) { day(); } }"},
            {"9", "private void f(int n) { for (int i = 0; n < 9; i++) { day(); } }"},
            {"9", "private void f(int n) { for (int i = 0; i < n; i++) { i = 0; } }"},
            {"10", "private String f(int n) { return \"a\" + n; }"},
            {"11", "private void f(int a, int b, int c, int d, int e, int f, int g, int h) { }"},
            {"11", "private void f() {" + "\n".repeat(61) + "}"},
            {"11", "private void f() { seasons(1, 1, 1, 1); }"},
            {"11", "private int a1, a2, a3;"},
            {"11", "private static final class C1 { } private static final class C2 { } private static final class C3 { }"},
            {"12", "private Book f() { return new Book(); }"},
            {"12", "private int[] f() { return new int[3]; }"},
            {"12", "private int[] f(int[] a) { return a.clone(); }"},
        };
        for (String[] member : members) {
            refused(Integer.parseInt(member[0]), head + member[1] + "\n}\n");
        }
        refused(1, text.replace("public final class SlipDesk", "public class SlipDesk"));
        refused(1, text.replace("public int firm()", "private int firm()"));
        refused(1, text.replace("NONE = -1;", "NONE = -2;"));
        refused(1, "package desk;\n" + text);
        refused(4, "import java.util.Random;\n" + text);
        refused(4, text + "// " + (char) 233 + "\n");
    }
}
