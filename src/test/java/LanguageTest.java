import java.nio.file.Files;
import java.nio.file.Path;
import java.util.List;
import java.util.regex.Matcher;
import java.util.regex.Pattern;

/** What of LANGUAGE.md can be seen in the text of SlipDesk.java alone. Argument: where the project is. */
public final class LanguageTest {
    private static int wrong = 0;

    private static void refuse(String text, String pattern, String rule) {
        Matcher m = Pattern.compile(pattern).matcher(text);
        while (m.find()) {
            wrong++;
            System.out.println("rule " + rule + ": " + m.group());
        }
    }

    public static void main(String[] args) throws Exception {
        Path root = Path.of(args.length > 0 ? args[0] : ".");
        String text = Files.readString(root.resolve("src/main/java/SlipDesk.java"));
        String code = text.replaceAll("(?s)/\\*.*?\\*/", " ").replaceAll("//[^\n]*", " ")
                .replaceAll("\"(\\\\.|[^\"\\\\])*\"", "\"\"").replaceAll("'(\\\\.|[^'\\\\])'", "' '");
        refuse(code, "\\b(throw|throws|try|catch|synchronized|assert|import|package|native|volatile)\\b", "4, 6");
        refuse(code, "->|::", "2");
        refuse(code, "\\b(equals|hashCode|toString|printStackTrace|System\\.(?!arraycopy)\\w+|\\w+Exact)\\b", "4, 6");
        refuse(code, "\\b(Object|HashMap|Map|Set|Random|Thread|Class|Long\\.valueOf)\\b", "3");
        refuse(code, "static (?!final)\\w+(\\[\\])? \\w+( =|;)", "5");
        refuse(code, "\\b(public|protected) (?!static final int NONE|final class SlipDesk|SlipDesk\\(|int )", "1");
        refuse(code, "\\([^()]*,[^()]*,[^()]*,[^()]*,[^()]*,[^()]*,[^()]*,[^()]*\\) \\{", "11");
        List<String> face = Pattern.compile("public int (\\w+)\\(").matcher(code).results().map(r -> r.group(1)).toList();
        for (String name : face) {
            refuse(code, "(?<!public )\\b(int|boolean|void|long|Rule) " + name + "\\(", "1");
        }
        if (face.size() != 37) {
            wrong++;
            System.out.println("the face has " + face.size() + " methods, not 37");
        }
        if (!text.chars().allMatch(c -> c < 128)) {
            wrong++;
            System.out.println("a sign beyond 127");
        }
        System.out.println("LanguageTest: " + wrong + " faults");
        if (wrong > 0) {
            System.exit(1);
        }
    }
}
