import java.io.IOException;
import java.nio.file.Files;
import java.nio.file.Path;
import java.util.ArrayList;
import java.util.List;
import java.util.regex.Matcher;
import java.util.regex.Pattern;

/**
 * The tests that quote the document quote it rightly, and leave no word of its Terms and promises out: so a
 * sentence without a test is found, and so is a test whose sentence reads otherwise by now.
 */
final class QuotesTest {
    private static final Due DUE = new Due();
    private static final String[] PAGES = {"TermsTest", "PromisesTest"};

    public static void main(String[] args) throws IOException {
        Path file = Path.of("../shared/DOC.md");
        if (!Files.isReadable(file)) {
            System.out.println("QuotesTest: the document is not here, nothing to compare");
            return;
        }
        String told = Files.readString(file);
        String document = plain(told);
        boolean[] quoted = new boolean[document.length()];
        for (String page : PAGES) {
            for (String comment : comments(Files.readString(Path.of("src/test/java/" + page + ".java")))) {
                mark(document, quoted, comment);
            }
        }
        for (String sentence : sentences(told)) {
            isQuoted(document, quoted, plain(sentence));
        }
        DUE.close("QuotesTest");
    }

    private static String plain(String text) {
        return text.replaceAll("\\s+", " ").trim();
    }

    private static List<String> comments(String source) {
        List<String> found = new ArrayList<>();
        Matcher m = Pattern.compile("(?s)/\\*\\*(.*?)\\*/").matcher(source);
        while (m.find()) {
            found.add(plain(m.group(1).replaceAll("\\n\\s*\\*", " ")));
        }
        return found;
    }

    private static void mark(String document, boolean[] quoted, String comment) {
        Matcher promise = Pattern.compile("^Promise (\\d+):").matcher(comment);
        int from = promise.find() ? document.indexOf("## Promise " + promise.group(1) + ":") : 0;
        Matcher quotes = Pattern.compile("\"([^\"]*)\"").matcher(comment);
        while (quotes.find()) {
            String words = quotes.group(1);
            int at = document.indexOf(words, from);
            int next = document.indexOf("## Promise", from + 1);
            boolean there = at >= 0 && (from == 0 || next < 0 || at < next);
            DUE.due("in the document: " + words, there, true);
            for (int k = at; there && k < at + words.length(); k++) {
                quoted[k] = true;
            }
        }
    }

    /** The lines of the Terms and of the promises, without heads, fences and the calls' own lines. */
    private static List<String> sentences(String document) {
        List<String> found = new ArrayList<>();
        int from = document.indexOf("## Terms");
        int to = document.indexOf("## Not promised");
        DUE.due("the document has Terms and promises", from >= 0 && to > from, true);
        for (String line : document.substring(Math.max(from, 0), Math.max(from, to)).split("\n")) {
            boolean aside = line.isBlank() || line.startsWith("#") || line.startsWith("```")
                || line.startsWith("Ahead of the calls") || line.startsWith("The constants");
            if (!aside) {
                found.add(line.replaceFirst("^`[^`]*`: ", "").replaceFirst("^I+\\. ", ""));
            }
        }
        DUE.due("sentences of 44 promises and more", found.size() > 44, true);
        return found;
    }

    private static void isQuoted(String document, boolean[] quoted, String sentence) {
        int from = document.indexOf(sentence);
        DUE.due("found: " + sentence, from >= 0, true);
        StringBuilder left = new StringBuilder();
        for (int k = Math.max(from, 0); k < from + sentence.length(); k++) {
            left.append(quoted[k] ? ' ' : document.charAt(k));
        }
        DUE.due("quoted by no test: " + plain(left.toString()), left.toString().matches(".*\\w.*"), false);
    }
}
