import java.lang.reflect.Method;
import java.nio.file.Files;
import java.nio.file.Paths;
import java.util.HashMap;
import java.util.Map;
import java.util.regex.Matcher;
import java.util.regex.Pattern;

/** The calls that README.md shows answer what it tells behind them. Runs from the project's own directory. */
final class ReadmeTest {
    private static final Pattern CALL = Pattern.compile("(?:int (\\w+) = )?x\\.(\\w+)\\(([^)]*)\\); +// (-?\\d+).*");
    private static final Pattern BOOK = Pattern.compile("`(paper [^`]*)`");

    public static void main(String[] args) throws Exception {
        String readme = new String(Files.readAllBytes(Paths.get("README.md")), "UTF-8");
        int from = readme.indexOf("```java\n");
        int to = readme.indexOf("```", from + 3);
        Due.due("README.md shows calls", from >= 0 && to > from ? 1 : 0, 1);
        String[] lines = readme.substring(from, to).split("\n");
        Due.due("the first line makes an object", lines[1].equals("ClashDays x = new ClashDays();") ? 1 : 0, 1);
        ClashDays x = new ClashDays();
        Map<String, Long> names = new HashMap<>();
        for (int i = 2; i < lines.length; i++) {
            Matcher m = CALL.matcher(lines[i]);
            boolean isCall = m.matches();
            Due.due("a call with its answer: " + lines[i], isCall ? 1 : 0, 1);
            if (isCall) {
                long answer = called(x, m.group(2), m.group(3), names);
                Due.due(lines[i], answer, Long.parseLong(m.group(4)));
                names.put(m.group(1) + "", answer);
            }
        }
        books(readme);
        Due.finish();
    }

    private static void books(String readme) {
        Matcher m = BOOK.matcher(readme);
        int books = 0;
        while (m.find()) {
            Due.book(new ClashDays(), m.group(1), m.group(1).split(";").length);
            books++;
        }
        Due.due("a book is shown", books, 1);
    }

    private static long called(ClashDays x, String name, String told, Map<String, Long> names) throws Exception {
        String[] words = told.isEmpty() ? new String[0] : told.split(", ");
        for (Method m : ClashDays.class.getMethods()) {
            if (m.getName().equals(name) && m.getParameterCount() == words.length) {
                Object[] with = new Object[words.length];
                for (int i = 0; i < words.length; i++) {
                    long v = names.containsKey(words[i]) ? names.get(words[i]) : Long.parseLong(words[i]);
                    with[i] = m.getParameterTypes()[i] == long.class ? (Object) v : (Object) (int) v;
                }
                return ((Number) m.invoke(x, with)).longValue();
            }
        }
        throw new IllegalArgumentException("no call " + name + " with " + words.length);
    }
}
