import java.io.IOException;
import java.nio.file.Files;
import java.nio.file.Paths;
import java.util.ArrayList;
import java.util.LinkedHashMap;
import java.util.List;
import java.util.Map;
import java.util.regex.Matcher;
import java.util.regex.Pattern;

/**
 * The document's sentences by sections, so that none is left without a test of its own: ABOUT, BOOK, DAY, COMES,
 * REFUSALS, DETAILS, and the promises by their numbers. Runs from the project's own directory.
 */
final class Doc {
    private static final Map<String, List<String>> QUOTES = new LinkedHashMap<>();

    private Doc() {
    }

    static void quote(String section, String part) {
        QUOTES.computeIfAbsent(section, s -> new ArrayList<>()).add(part);
    }

    /** Each part of a sentence (up to a full stop or a semicolon) has a quote, and each quote stands in the document. */
    static void dueCovered() throws IOException {
        Map<String, String> sections = sections();
        for (Map.Entry<String, String> section : sections.entrySet()) {
            List<String> quotes = QUOTES.getOrDefault(section.getKey(), new ArrayList<>());
            for (String part : parts(section.getValue())) {
                boolean has = false;
                for (String quote : quotes) {
                    has |= part.contains(quote);
                }
                Due.due(section.getKey() + " '" + part + "' has a test of its own", has ? 1 : 0, 1);
            }
            for (String quote : quotes) {
                Due.due(section.getKey() + " tells '" + quote + "'", section.getValue().contains(quote) ? 1 : 0, 1);
            }
        }
        for (String name : QUOTES.keySet()) {
            Due.due("section " + name, sections.containsKey(name) ? 1 : 0, 1);
        }
        Due.due("sections", sections.size(), 6 + 46);
    }

    private static Map<String, String> sections() throws IOException {
        String doc = new String(Files.readAllBytes(Paths.get("../shared/DOC.md")), "UTF-8").replace("```text", "").replace("```", "");
        String[] heads = {"An object is used", "## The public face", "==== 1. THE BOOK", "==== 2. A DAY OF ONE",
            "==== 3. WHAT COMES OF IT", "REFUSALS (", "Details.", "## Promise 1:"};
        String[] names = {"ABOUT", null, "BOOK", "DAY", "COMES", "REFUSALS", "DETAILS"};
        Map<String, String> sections = new LinkedHashMap<>();
        for (int i = 0; i < names.length; i++) {
            int from = doc.indexOf(heads[i]);
            int to = doc.indexOf(heads[i + 1], from);
            Due.due("the document has " + heads[i], from >= 0 && to > from ? 1 : 0, 1);
            if (names[i] != null && from >= 0 && to > from) {
                int text = names[i].equals("ABOUT") ? from : from + heads[i].length();
                sections.put(names[i], plain(doc.substring(text, to)));
            }
        }
        Matcher m = Pattern.compile("(?s)## Promise (\\d+): .*?\\n\\n`[^`]*`: (.*?)(?=\\n## )").matcher(doc);
        while (m.find()) {
            sections.put(m.group(1), plain(m.group(2)));
        }
        return sections;
    }

    private static String plain(String text) {
        return text.replaceAll("\\s+", " ").trim();
    }

    private static List<String> parts(String text) {
        List<String> parts = new ArrayList<>();
        for (String part : text.split("(?<![ .])[.;](?=[ )]|$)")) {
            if (part.matches(".*[A-Za-z].*")) {
                parts.add(part.trim());
            }
        }
        return parts;
    }
}
