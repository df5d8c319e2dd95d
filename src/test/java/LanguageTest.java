import java.io.IOException;
import java.nio.file.Files;
import java.nio.file.Path;
import java.util.Set;
import java.util.regex.Matcher;
import java.util.regex.Pattern;

/** Those rules of ../shared/LANGUAGE.md that can be looked up in the text of the class. */
public final class LanguageTest {
    private static final Path SOURCE = Path.of("src/main/java/ColumnCasts.java");
    private static final String[] FORBIDDEN = {
        "\\bimport\\b", "\\bpackage\\b", "\\bthrows?\\b", "\\btry\\b", "\\bcatch\\b", "\\bfinally\\b", "\\bsynchronized\\b",
        "\\bassert\\b", "\\bvolatile\\b", "\\btransient\\b", "\\bnative\\b", "\\bvar\\b", "\\byield\\b", "->", "::", "@",
        "\\bprotected\\b", "\\bNaN\\b", "Exact\\b", "\\bjava\\s*\\.", "\\bObject\\b", "\\bequals\\b", "\\bhashCode\\b",
        "\\btoString\\b", "\\bgetClass\\b", "\\bthis\\s*[;,)]"};
    private static final Set<String> CALLED = Set.of("Integer.compare", "Long.compare", "System.arraycopy");
    private static final Set<String> MADE = Set.of("Cell", "Column", "View", "Filter", "Table", "Text", "Spelling", "int", "long",
        "double", "boolean");
    private static final Pattern HEAD = Pattern.compile("^( +)(?:(?:public|private|static|final) )*[\\w\\[\\]]+ ?\\w*\\(([^)]*)\\) \\{$");

    private static void due(String what, long got, long want) {
        Checks.due(what, got, want);
    }

    private static String bare(String source) {
        return source.replaceAll("(?s)/\\*.*?\\*/|//[^\n]*", "").replaceAll("'(?:\\\\.|[^'])'", "'a'").replaceAll("\"[^\"]*\"", "\"a\"");
    }

    private static void words(String bare) {
        for (String forbidden : FORBIDDEN) {
            Matcher matcher = Pattern.compile(forbidden).matcher(bare);
            due("places of " + forbidden, matcher.results().count(), 0);
        }
        Matcher calls = Pattern.compile("\\b[A-Z][a-z]\\w*\\.\\w+(?=\\()").matcher(bare);
        while (calls.find()) {
            due("call of " + calls.group(), CALLED.contains(calls.group()) ? 1 : 0, 1);
        }
        Matcher made = Pattern.compile("\\bnew (\\w+)").matcher(bare);
        while (made.find()) {
            due("new " + made.group(1), MADE.contains(made.group(1)) ? 1 : 0, 1);
        }
        due("texts joined by +", Pattern.compile("\"\\s*\\+|\\+\\s*\"").matcher(bare).results().count(), 0);
    }

    private static void signs(String source) {
        for (int i = 0; i < source.length(); i++) {
            char sign = source.charAt(i);
            if (sign != '\n' && (sign < ' ' || sign > '~')) {
                due("sign at " + i, sign, ' ');
            }
        }
    }

    /** A method ends at the brace that stands as far in as its head. */
    private static void methods(String bare) {
        String[] lines = bare.split("\n");
        int heads = 0;
        for (int i = 0; i < lines.length; i++) {
            Matcher head = HEAD.matcher(lines[i]);
            if (head.matches() && !lines[i].matches(" +(if|for|while|switch|\\}).*")) {
                heads++;
                int end = i;
                while (!lines[end].equals(head.group(1) + "}")) {
                    end++;
                }
                due("more than 60 lines:" + lines[i], end - i > 60 ? end - i : 0, 0);
                int parameters = head.group(2).isEmpty() ? 0 : head.group(2).split(",").length;
                due("more than 7 parameters:" + lines[i], parameters > 7 ? parameters : 0, 0);
            }
        }
        due("too few methods seen", heads > 100 ? 1 : 0, 1);
    }

    public static void main(String[] args) throws IOException {
        String source = Files.readString(SOURCE);
        signs(source);
        words(bare(source));
        methods(bare(source));
        Checks.end();
    }
}
