import java.io.IOException;
import java.nio.file.Files;
import java.nio.file.Path;
import java.util.LinkedHashMap;
import java.util.LinkedHashSet;
import java.util.List;
import java.util.Map;
import java.util.Set;
import java.util.regex.Matcher;
import java.util.regex.Pattern;
import java.util.stream.Collectors;
import java.util.stream.Stream;

/**
 * The sentences of ../shared/DOC.md, by section: T1 .. T3 (Terms), Answers,
 * Details, 1 .. 33 (Promises). A test quotes the one that it looks at, so that
 * a sentence which no test looks at is seen.
 */
final class Doc {
    private static final Path FILE = Path.of("../shared/DOC.md");
    // A dot of ".." ends no sentence.
    private static final String END = "(?<=[^.\\s])\\.(?:\\s+|$)";
    private static final Map<String, List<String>> SENTENCES = new LinkedHashMap<>();
    private static final Set<String> QUOTED = new LinkedHashSet<>();

    private Doc() {
    }

    /** Whether there is a document to look into. */
    static boolean isThere() {
        return Files.isReadable(FILE);
    }

    static void read() throws IOException {
        String doc = Files.readString(FILE).replaceAll("```\\w*", " ").replaceAll("\\s+", " ");
        put("T1", doc, "==== 1 (.*?) ==== 2 ");
        put("T2", doc, "==== 2 (.*?) ==== 3 ");
        put("T3", doc, "==== 3 (.*?) Answers: ");
        put("Answers", doc, " Answers: (.*?) Details\\. ");
        put("Details", doc, " Details\\. (.*?) Ahead of ");
        for (int promise = 1; promise <= 33; promise++) {
            put(String.valueOf(promise), doc, "## Promise " + promise + ": [^`]*`[^`]*`: (.*?) ## ");
        }
    }

    private static void put(String section, String doc, String words) {
        Matcher matcher = Pattern.compile(words).matcher(doc);
        Checks.due("sections " + section + " of the document", matcher.find() ? 1 : 0, 1);
        SENTENCES.put(section, Stream.of(matcher.group(1).split(END)).collect(Collectors.toList()));
    }

    /** Words of one sentence of a section; a whole one goes ahead of those that hold it, too. */
    static void quote(String section, String words) {
        if (SENTENCES.isEmpty()) {
            return;
        }
        List<String> sentences = SENTENCES.getOrDefault(section, List.of());
        List<String> found = sentences.stream().filter(s -> s.equals(words)).collect(Collectors.toList());
        if (found.isEmpty()) {
            found = sentences.stream().filter(s -> s.contains(words)).collect(Collectors.toList());
        }
        Checks.due("sentences of " + section + " that say \"" + words + "\"", found.size(), 1);
        for (String sentence : found) {
            QUOTED.add(section + ": " + sentence);
        }
    }

    /** Every sentence has a test that quotes it. */
    static void dueToBeQuoted() {
        for (Map.Entry<String, List<String>> section : SENTENCES.entrySet()) {
            for (String sentence : section.getValue()) {
                String whole = section.getKey() + ": " + sentence;
                Checks.due("tests of " + whole, QUOTED.contains(whole) ? 1 : 0, 1);
            }
        }
    }
}
