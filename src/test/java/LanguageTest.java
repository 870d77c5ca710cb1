import java.lang.reflect.Field;
import java.lang.reflect.Modifier;
import java.nio.file.Files;
import java.nio.file.Path;
import java.util.HashSet;
import java.util.List;
import java.util.Set;
import java.util.regex.Matcher;
import java.util.regex.Pattern;

/** The rules of LANGUAGE.md that a look at the source's text can find broken. */
public final class LanguageTest {
    private static final Check check = new Check("LanguageTest");
    private static final Pattern METHOD = Pattern.compile("^(\\s+)(public |private |protected )?(static )?(final )?[\\w\\[\\]<>]+ (\\w+)\\(([^)]*)\\).*\\{$");

    public static void main(String[] args) throws Exception {
        Path root = Path.of(System.getProperty("project", "."));
        List<String> lines = Files.readAllLines(root.resolve("src/main/java/KitchenCards.java"));
        StringBuilder all = new StringBuilder();
        for (String line : lines) {
            all.append(line.replaceAll("//.*", "").replaceAll("\"[^\"]*\"", "\"\"")).append('\n');
        }
        String code = all.toString().replaceAll("(?s)/\\*.*?\\*/", "");
        signs(lines);
        words(code);
        methods(lines);
        classes();
        check.end();
    }

    private static void signs(List<String> lines) {
        for (String line : lines) {
            check.due("signs of " + line, line.chars().allMatch(c -> c >= 32 && c < 127) ? 1 : 0, 1);
        }
    }

    private static void words(String code) {
        String[] none = {"->", "::", "\\bfinally\\b", "\\bsynchronized\\b", "\\bassert\\b", "\\bpackage\\b", "Exact\\(", "\\bString\\.",
            "\\bprotected\\b", "\\bObject\\b", "\\bgetMessage\\b", "\\bvolatile\\b", "\\bnative\\b", "\\bnew \\w+\\([^)]*\\) \\{", "\\bvar\\b",
            "catch \\((Exception|RuntimeException|Throwable|ArrayIndex|NullPointer|Arithmetic|ClassCast|Negative|IndexOut)"};
        for (String word : none) {
            Matcher found = Pattern.compile(word).matcher(code);
            check.same("what isn't in the language", found.find() ? found.group() : "", "");
        }
        Matcher imports = Pattern.compile("import ([\\w.]+);").matcher(code);
        while (imports.find()) {
            check.same("an import", imports.group(1), "java.util.Arrays");
        }
        Matcher library = Pattern.compile("\\b(System|Arrays|Math|Integer|Long|Character|Thread|Runtime)\\.(\\w+)").matcher(code);
        Set<String> listed = Set.of("System.arraycopy", "Arrays.fill", "Math.max", "Math.min", "Integer.bitCount", "Long.bitCount");
        while (library.find()) {
            check.due(library.group(), listed.contains(library.group()) ? 1 : 0, 1);
        }
        Matcher fields = Pattern.compile("\\bstatic (?!final )(?!\\w+ \\w+\\()\\w+(\\[\\])? \\w+( =|;)").matcher(code);
        check.same("a static field that isn't final", fields.find() ? fields.group() : "", "");
        int classes = code.split("\\b(class|enum|interface|record) \\w").length - 1;
        check.due("some twelve classes: " + classes, classes <= 12 ? 1 : 0, 1);
    }

    private static void classes() {
        check.due("fields of the class", ownFields(KitchenCards.class) <= 20 ? 1 : 0, 1);
        for (Class<?> inside : KitchenCards.class.getDeclaredClasses()) {
            int marks = inside.getModifiers();
            check.due(inside.getName() + " is static, and not open", Modifier.isStatic(marks)
                && !Modifier.isPublic(marks) && !Modifier.isProtected(marks) ? 1 : 0, 1);
            check.due("fields of " + inside.getName(), ownFields(inside) <= 20 ? 1 : 0, 1);
        }
    }

    /** Fields beside constants; a static one must be a constant. */
    private static int ownFields(Class<?> told) {
        int sum = 0;
        for (Field field : told.getDeclaredFields()) {
            if (Modifier.isStatic(field.getModifiers())) {
                check.due(told.getName() + "." + field.getName() + " is final", Modifier.isFinal(field.getModifiers()) ? 1 : 0, 1);
            } else {
                sum++;
            }
        }
        return sum;
    }

    private static void methods(List<String> lines) {
        Set<String> open = new HashSet<>();
        Set<String> hidden = new HashSet<>();
        for (int i = 0; i < lines.size(); i++) {
            Matcher method = METHOD.matcher(lines.get(i));
            if (!method.find() || lines.get(i).contains(" class ") || lines.get(i).trim().startsWith("return")
                || lines.get(i).trim().startsWith("}") || lines.get(i).contains("else if")) {
                continue;
            }
            boolean isPublic = "public ".equals(method.group(2));
            (isPublic ? open : hidden).add(method.group(5));
            int end = i;
            while (!lines.get(end).equals(method.group(1) + "}")) {
                end++;
            }
            check.due("lines of " + method.group(5) + ": " + (end - i + 1), end - i + 1 <= 60 ? 1 : 0, 1);
            check.due("parameters of " + method.group(5), method.group(6).split(",").length <= 7 ? 1 : 0, 1);
        }
        check.due("public methods", open.size(), 32);
        for (String name : hidden) {
            check.due(name + " bears the name of a public one", open.contains(name) ? 1 : 0, 0);
        }
    }
}
