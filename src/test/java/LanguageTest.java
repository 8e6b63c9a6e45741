import java.io.IOException;
import java.nio.file.Files;
import java.nio.file.Path;
import java.util.regex.Matcher;
import java.util.regex.Pattern;

/** What LANGUAGE.md rules out and a plain look at the text can find. */
public final class LanguageTest {
    private static final int LONGEST_METHOD = 60;
    private static final int MOST_CLASSES = 12;
    private static final int MOST_FIELDS = 20;
    private static final String[] RULED_OUT = {
        "\\b(throw|throws|try|catch|finally|synchronized|assert|package|protected|volatile|transient|native)\\b",
        "->", "::", "@", "\\bvar\\b", "\\bstatic\\s*\\{", "\\bExact\\b", "Exact\\(", "\\bSystem\\.(?!arraycopy\\b)",
        "\\b(Object|Thread|Random|Runtime|Class|Collections|Map|HashMap|Set|Scanner)\\b",
        "\\b(hashCode|toString|getClass)\\b", "\\[\\]\\s*\\[\\]\\s*\\[\\]", "%\\s*0\\b", "/\\s*0\\b",
        "[^\\x00-\\x7f]"};

    private LanguageTest() {
    }

    public static void main(String[] args) throws IOException {
        Path root = Path.of(System.getProperty("project.root", "."));
        String source = Files.readString(root.resolve("src/main/java/DeliveryRound.java"));
        String code = source.replaceAll("(?s)/\\*.*?\\*/", "").replaceAll("//[^\n]*", "");
        for (String pattern : RULED_OUT) {
            Matcher m = Pattern.compile(pattern).matcher(code);
            Check.due("'" + pattern + "' is in the code", m.find(), false);
        }
        Matcher imports = Pattern.compile("(?m)^import (.*);").matcher(code);
        while (imports.find()) {
            Check.due("import " + imports.group(1), imports.group(1).matches("java\\.util\\.(Arrays|ArrayList|List)"),
                    true);
        }
        Check.due("classes at most", count("\\bclass \\w+ \\{", code) <= MOST_CLASSES, true);
        methods(code);
        fields();
        Check.end();
    }

    private static int count(String pattern, String code) {
        return (int) Pattern.compile(pattern).matcher(code).results().count();
    }

    /** A method's lines run from its head to the closing brace of the same depth. */
    private static void methods(String code) {
        String[] lines = code.split("\n");
        Pattern head = Pattern.compile("^( {4}| {8})[A-Za-z][\\w\\[\\] ]*\\(([^()]*)\\) \\{$");
        for (int i = 0; i < lines.length; i++) {
            Matcher m = head.matcher(lines[i]);
            if (!m.find()) {
                continue;
            }
            int end = i;
            while (end < lines.length && !lines[end].equals(m.group(1) + "}")) {
                end++;
            }
            Check.due("lines are few in " + lines[i].trim(), end - i <= LONGEST_METHOD, true);
            Check.due("parameters are few in " + lines[i].trim(), m.group(2).split(",").length <= 7, true);
        }
    }

    private static void fields() {
        check(DeliveryRound.class);
        for (Class<?> inside : DeliveryRound.class.getDeclaredClasses()) {
            check(inside);
        }
    }

    private static void check(Class<?> type) {
        int own = 0;
        for (java.lang.reflect.Field field : type.getDeclaredFields()) {
            boolean shared = java.lang.reflect.Modifier.isStatic(field.getModifiers());
            own += shared ? 0 : 1;
            if (shared) {
                Check.due(field + " is final", java.lang.reflect.Modifier.isFinal(field.getModifiers()), true);
            }
        }
        Check.due("fields are few in " + type, own <= MOST_FIELDS, true);
    }
}
