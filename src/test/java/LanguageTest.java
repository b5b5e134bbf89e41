import java.nio.file.Files;
import java.nio.file.Path;
import java.util.regex.Matcher;
import java.util.regex.Pattern;

/** Rules of LANGUAGE.md that can be looked for in the text of the class. */
public final class LanguageTest {
    private static final String[] FORBIDDEN = {"\\bthrow\\b", "\\bthrows\\b", "\\btry\\b", "\\bcatch\\b", "\\bsynchronized\\b",
        "\\bassert\\b", "->", "::", "\\bvar\\b", "\\bprotected\\b", "Exact\\b", "\\bhashCode\\b", "\\btoString\\b",
        "\\bObject\\b", "\\bSystem\\.(?!arraycopy\\b)", "\\bwhile \\(true\\)", "\\bfor \\(;;\\)", "\\bMap\\b", "\\bpackage\\b"};

    public static void main(String[] args) throws Exception {
        String source = Files.readString(Path.of("src/main/java/NightHouses.java"));
        String code = source.replaceAll("(?s)/\\*.*?\\*/", "").replaceAll("//[^\n]*", "").replaceAll("\"[^\"\n]*\"", "\"\"");
        for (String each : FORBIDDEN) {
            Check.due(each, Pattern.compile(each).matcher(code).find(), false);
        }
        imports(code);
        classes(code);
        methods(code);
        Check.finish();
    }

    private static void imports(String code) {
        Matcher each = Pattern.compile("import ([^;]*);").matcher(code);
        while (each.find()) {
            Check.due("import " + each.group(1), each.group(1).matches("java\\.util\\.(Arrays|ArrayList|List|Iterator)"), true);
        }
    }

    private static void classes(String code) {
        int count = 0;
        Matcher each = Pattern.compile("(?m)^ *(.*)\\bclass (\\w+)").matcher(code);
        while (each.find()) {
            count++;
            boolean face = each.group(2).equals("NightHouses");
            String due = face ? "public final " : "private static final ";
            Check.due("class " + each.group(2), each.group(1).equals(due), true);
        }
        Check.due("classes: " + count, count <= 12, true);
    }

    private static void methods(String code) {
        String[] lines = code.split("\n");
        Pattern head = Pattern.compile("^( +)(?:(?:public|private|static|final) )*[\\w\\[\\]]+ (\\w+)\\(([^)]*)\\) \\{$");
        int count = 0;
        for (int i = 0; i < lines.length; i++) {
            Matcher method = head.matcher(lines[i]);
            if (!method.matches() || lines[i].contains(" new ") || method.group(2).equals("if")) {
                continue;
            }
            count++;
            int end = i;
            while (!lines[end].equals(method.group(1) + "}")) {
                end++;
            }
            Check.due(method.group(2) + " has " + (end - i + 1) + " lines", end - i < 60, true);
            Check.due(method.group(2) + "(" + method.group(3) + ")", method.group(3).split(",").length <= 7, true);
        }
        Check.due("methods: " + count, count > 100, true);
    }
}
