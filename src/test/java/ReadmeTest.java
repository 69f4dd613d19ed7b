import java.lang.reflect.Method;
import java.nio.file.Files;
import java.nio.file.Path;
import java.util.Arrays;
import java.util.HashSet;
import java.util.Set;
import java.util.regex.Matcher;
import java.util.regex.Pattern;

/** The calls that README.md shows, with the answers it tells, on one desk; and that it names every call of the face. */
public final class ReadmeTest {
    private static int wrong = 0;

    private static void fail(String what) {
        wrong++;
        System.out.println(what);
    }

    public static void main(String[] args) throws Exception {
        Path root = Path.of(args.length > 0 ? args[0] : ".");
        String page = Files.readString(root.resolve("README.md"));
        Matcher shown = Pattern.compile("(?m)^desk\\.(\\w+)\\((.*?)\\); +// (-?\\d+)").matcher(page);
        SlipDesk desk = new SlipDesk();
        int calls = 0;
        while (shown.find()) {
            calls++;
            int got = call(desk, shown.group(1), shown.group(2));
            if (got != Integer.parseInt(shown.group(3))) {
                fail(shown.group() + " answered " + got);
            }
        }
        if (calls != page.lines().filter(l -> l.startsWith("desk.")).count()) {
            fail("a call is shown without its answer");
        }
        nameAll(page);
        System.out.println("ReadmeTest: " + calls + " calls shown, " + wrong + " faults");
        if (wrong > 0 || calls == 0) {
            System.exit(1);
        }
    }

    private static int call(SlipDesk desk, String name, String told) throws Exception {
        Object[] numbers = told.isEmpty() ? new Object[0]
                : Arrays.stream(told.split(", ")).map(n -> Long.decode(n).intValue()).toArray();
        Class<?>[] types = new Class<?>[numbers.length];
        Arrays.fill(types, int.class);
        Method method = SlipDesk.class.getMethod(name, types);
        return (int) method.invoke(desk, numbers);
    }

    private static void nameAll(String page) {
        Set<String> named = new HashSet<>();
        Matcher rows = Pattern.compile("`(\\w+)`").matcher(page);
        while (rows.find()) {
            named.add(rows.group(1));
        }
        for (Method method : SlipDesk.class.getDeclaredMethods()) {
            boolean isFace = java.lang.reflect.Modifier.isPublic(method.getModifiers());
            if (isFace && !named.contains(method.getName())) {
                fail("the page does not name " + method.getName());
            }
        }
    }
}
