import java.io.IOException;
import java.lang.reflect.Constructor;
import java.lang.reflect.Field;
import java.lang.reflect.Method;
import java.lang.reflect.Modifier;
import java.nio.file.Files;
import java.nio.file.Paths;
import java.util.ArrayList;
import java.util.HashMap;
import java.util.HashSet;
import java.util.List;
import java.util.Map;
import java.util.Set;
import java.util.regex.Matcher;
import java.util.regex.Pattern;

/** What of ../shared/LANGUAGE.md can be seen in the class, as text and compiled. Runs from the project's own directory. */
final class LanguageTest {
    private static final String[] NEVER = {"\\bimport\\b", "\\bpackage\\b", "->", "::", "\\bthrow\\b", "\\btry\\b", "\\bcatch\\b",
        "\\bfinally\\b", "\\bsynchronized\\b", "\\bassert\\b", "\\bstatic \\{", "\\bextends\\b", "\\bList\\b", "\\bvar\\b",
        "\\bSystem\\.(?!arraycopy)", "\\bMath\\.(?!min|max)", "Exact\\b", "\\bwhile \\(true\\)", "\\bfor \\(;;\\)", "\\bprotected\\b",
        "\\bObject\\b", "\\btoString\\b", "\\bhashCode\\b", "\\bequals\\b", "\\binstanceof\\b", "\\bThread\\b", "\\bRandom\\b"};

    /** All of the library that is called (rule 4). */
    private static final String LIBRARY = " java/lang/Object.<init>()V java/lang/System.arraycopy(Ljava/lang/Object;ILjava/lang/Object;II)V"
        + " java/lang/Integer.bitCount(I)I java/lang/Long.bitCount(J)I java/lang/Math.max(II)I java/lang/Math.min(II)I"
        + " java/lang/String.length()I java/lang/String.charAt(I)C ";
    /** Lambdas, throws, casts, looks at classes, locks, rows of rows, and all of doubles and floats that can go wrong. */
    private static final int[] NO_INSTRUCTIONS = {186, 191, 192, 193, 194, 195, 197, 110, 111, 114, 115};
    private static final int MOST_DEEP = 8;
    private static final int MOST_PARAMETERS = 7;
    private static final int MOST_FIELDS = 20;

    public static void main(String[] args) throws IOException {
        text();
        List<Class<?>> classes = new ArrayList<>(List.of(ClashDays.class.getDeclaredClasses()));
        classes.add(ClashDays.class);
        Map<String, Set<String>> calls = new HashMap<>();
        for (Class<?> c : classes) {
            sizes(c);
            calls.putAll(compiled(c));
        }
        for (String method : calls.keySet()) {
            Due.due("calls go at most eight deep from " + method, depth(calls, method, new HashSet<>()) <= MOST_DEEP ? 1 : 0, 1);
        }
        Due.finish();
    }

    private static Map<String, Set<String>> compiled(Class<?> c) throws IOException {
        ClassFile file = ClassFile.of(c);
        for (Map.Entry<String, Set<String>> method : file.calls.entrySet()) {
            for (String called : method.getValue()) {
                boolean may = called.startsWith("ClashDays") || LIBRARY.contains(" " + called + " ");
                Due.due(method.getKey() + " calls " + called, may ? 1 : 0, 1);
            }
        }
        for (int op : NO_INSTRUCTIONS) {
            Due.due(c + " has no instruction " + op, file.instructions.getOrDefault(op, 0), 0);
        }
        Due.due(c + " catches nothing", file.guarded, 0);
        Due.due(c + " has no static block", file.calls.containsKey(file.name + ".<clinit>()V") ? 1 : 0, 0);
        return file.calls;
    }

    /** The most calls that stand open at once, the first and the library's own too; a call of itself is too deep. */
    private static int depth(Map<String, Set<String>> calls, String method, Set<String> open) {
        if (!calls.containsKey(method)) {
            return 1;
        }
        if (!open.add(method)) {
            return MOST_DEEP;
        }
        int deepest = 0;
        for (String called : calls.get(method)) {
            deepest = Math.max(deepest, depth(calls, called, open));
        }
        open.remove(method);
        return 1 + deepest;
    }

    private static void sizes(Class<?> c) {
        for (Method m : c.getDeclaredMethods()) {
            Due.due(m + " takes few", m.getParameterCount() <= MOST_PARAMETERS ? 1 : 0, 1);
        }
        int fields = 0;
        for (Field f : c.getDeclaredFields()) {
            fields += Modifier.isStatic(f.getModifiers()) ? 0 : 1;
        }
        Due.due(c + " has few fields", fields <= MOST_FIELDS ? 1 : 0, 1);
        // rule 12: what takes nothing is handed nothing of the object that is being made
        for (Constructor<?> made : c.getDeclaredConstructors()) {
            Due.due(made + " takes nothing", made.isSynthetic() ? 0 : made.getParameterCount(), 0);
        }
    }

    private static void text() throws IOException {
        List<String> lines = Files.readAllLines(Paths.get("src/main/java/ClashDays.java"));
        StringBuilder code = new StringBuilder();
        for (String line : lines) {
            String bare = line.trim();
            if (!bare.startsWith("*") && !bare.startsWith("/*") && !bare.startsWith("//")) {
                code.append(line).append('\n');
            }
        }
        for (String never : NEVER) {
            Matcher m = Pattern.compile(never).matcher(code);
            Due.due("never " + never, m.find() ? 1 : 0, 0);
        }
        Due.due("classes", count(code, "(?m)^    private static final class "), count(code, "\\bclass ") - 1);
        Due.due("some twelve classes at most", count(code, "\\bclass ") <= 12 ? 1 : 0, 1);
        // objects are made where fields are, and once in a constructor
        for (String line : code.toString().split("\n")) {
            if (line.contains(" new ") && !line.contains("private final") && !line.contains(" final int[] ")) {
                boolean known = line.contains(" final ") || line.contains("weeks[c] = new Week();");
                Due.due(line, known ? 1 : 0, 1);
            }
        }
        longMethods(lines);
    }

    private static int count(CharSequence code, String what) {
        int n = 0;
        Matcher m = Pattern.compile(what).matcher(code);
        while (m.find()) {
            n++;
        }
        return n;
    }

    private static void longMethods(List<String> lines) {
        int from = -1;
        for (int i = 0; i < lines.size(); i++) {
            String line = lines.get(i);
            if (line.matches(" {4,8}\\S.*\\) \\{") && !line.trim().startsWith("for") && !line.trim().startsWith("if")) {
                from = i;
            }
            if (from >= 0 && line.matches(" {4,8}\\}")) {
                Due.due("a short method: " + lines.get(from).trim(), i - from <= 60 ? 1 : 0, 1);
                from = -1;
            }
        }
    }
}
