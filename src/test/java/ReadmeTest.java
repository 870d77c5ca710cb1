import java.io.File;
import java.lang.reflect.Method;
import java.nio.file.Files;
import java.nio.file.Path;
import java.util.regex.Matcher;
import java.util.regex.Pattern;

/** README.md: its calls are made as they stand there, and it names every call and every test. */
public final class ReadmeTest {
    private static final Check check = new Check("ReadmeTest");
    private static final Pattern CALL = Pattern.compile("^(x\\.(\\w+)\\((.*?)\\)|lay\\(x, (\\d), \"(.*)\"\\)); +// (-?\\d+)( .*)?$");

    public static void main(String[] args) throws Exception {
        Path root = Path.of(System.getProperty("project", "."));
        String text = Files.readString(root.resolve("README.md"));
        makeCalls(text);
        namesCalls(text);
        namesTests(text, root.resolve("src/test/java").toFile());
        check.end();
    }

    private static void makeCalls(String text) throws Exception {
        KitchenCards x = new KitchenCards();
        int calls = 0;
        int made = 0;
        for (String line : text.split("\n")) {
            calls += line.startsWith("x.") || line.startsWith("lay(") ? 1 : 0;
            Matcher call = CALL.matcher(line);
            if (call.matches()) {
                made++;
                check.due(call.group(1), call.group(2) != null ? answer(x, call.group(2), call.group(3))
                    : lay(x, Integer.parseInt(call.group(4)), call.group(5)), Long.parseLong(call.group(6)));
            }
        }
        check.due("each call has an answer behind it", made, calls);
        check.due("there are calls", made > 20 ? 1 : 0, 1);
    }

    private static long answer(KitchenCards x, String name, String told) throws Exception {
        String[] texts = told.isEmpty() ? new String[0] : told.split(", ");
        Object[] numbers = new Object[texts.length];
        for (int i = 0; i < texts.length; i++) {
            numbers[i] = texts[i].startsWith("'") ? texts[i].charAt(1) : Integer.parseInt(texts[i]);
        }
        return ((Number) method(name).invoke(x, numbers)).longValue();
    }

    private static Method method(String name) {
        for (Method method : KitchenCards.class.getDeclaredMethods()) {
            if (method.getName().equals(name)) {
                return method;
            }
        }
        throw new IllegalStateException("README.md has a call that isn't there: " + name);
    }

    private static int lay(KitchenCards x, int d, String text) {
        int answer = x.row(d, 0, text.length());
        for (int i = 0; i < text.length(); i++) {
            x.put(d, i, text.charAt(i));
        }
        return answer;
    }

    private static void namesCalls(String text) {
        for (Method method : KitchenCards.class.getDeclaredMethods()) {
            if (java.lang.reflect.Modifier.isPublic(method.getModifiers())) {
                int n = method.getParameterCount();
                String shape = "`" + method.getName() + "\\(" + (n == 0 ? "" : "\\w+" + Check.times(", \\w+", n - 1)) + "\\)`";
                check.due("README.md names " + method.getName(), Pattern.compile(shape).matcher(text).find() ? 1 : 0, 1);
            }
        }
    }

    private static void namesTests(String text, File folder) {
        String[] names = folder.list();
        check.due("tests are there", names != null && names.length > 1 ? 1 : 0, 1);
        for (String name : names == null ? new String[0] : names) {
            String test = name.replace(".java", "");
            check.due("README.md names " + test, text.contains("`" + test + "`") ? 1 : 0, 1);
        }
    }
}
