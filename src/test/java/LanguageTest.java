import java.io.IOException;
import java.nio.file.Files;
import java.nio.file.Paths;
import java.util.List;
import java.util.regex.Matcher;
import java.util.regex.Pattern;

/** What of ../shared/LANGUAGE.md can be seen in the text of the class. Runs from the project's own directory. */
final class LanguageTest {
    private static final String[] NEVER = {"\\bimport\\b", "\\bpackage\\b", "->", "::", "\\bthrow\\b", "\\btry\\b", "\\bcatch\\b",
        "\\bfinally\\b", "\\bsynchronized\\b", "\\bassert\\b", "\\bstatic \\{", "\\bextends\\b", "\\bList\\b", "\\bvar\\b",
        "\\bSystem\\.(?!arraycopy)", "\\bMath\\.(?!min|max)", "Exact\\b", "\\bwhile \\(true\\)", "\\bfor \\(;;\\)", "\\bprotected\\b",
        "\\bObject\\b", "\\btoString\\b", "\\bhashCode\\b", "\\bequals\\b", "\\binstanceof\\b", "\\bThread\\b", "\\bRandom\\b"};

    public static void main(String[] args) throws IOException {
        List<String> lines = Files.readAllLines(Paths.get("src/main/java/ClashDays.java"));
        StringBuilder code = new StringBuilder();
        for (String line : lines) {
            String bare = line.trim();
            if (!bare.startsWith("*") && !bare.startsWith("/*") && !bare.startsWith("//")) {
                code.append(line).append('\n');
            }
        }
        for (String never : NEVER) {
            Matcher m = Pattern.compile(never).matcher(code);
            Due.due("never " + never, m.find() ? 1 : 0, 0);
        }
        Due.due("classes", count(code, "(?m)^    private static final class "), count(code, "\\bclass ") - 1);
        Due.due("some twelve classes at most", count(code, "\\bclass ") <= 12 ? 1 : 0, 1);
        // objects are made where fields are, and once in a constructor
        for (String line : code.toString().split("\n")) {
            if (line.contains(" new ") && !line.contains("private final") && !line.contains(" final int[] ")) {
                boolean known = line.contains(" final ") || line.contains("weeks[c] = new Week();");
                Due.due(line, known ? 1 : 0, 1);
            }
        }
        longMethods(lines);
        Due.finish();
    }

    private static int count(CharSequence code, String what) {
        int n = 0;
        Matcher m = Pattern.compile(what).matcher(code);
        while (m.find()) {
            n++;
        }
        return n;
    }

    private static void longMethods(List<String> lines) {
        int from = -1;
        for (int i = 0; i < lines.size(); i++) {
            String line = lines.get(i);
            if (line.matches(" {4,8}\\S.*\\) \\{") && !line.trim().startsWith("for") && !line.trim().startsWith("if")) {
                from = i;
            }
            if (from >= 0 && line.matches(" {4,8}\\}")) {
                Due.due("a short method: " + lines.get(from).trim(), i - from <= 60 ? 1 : 0, 1);
                from = -1;
            }
        }
    }
}
