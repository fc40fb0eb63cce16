import java.nio.file.Files;
import java.nio.file.Path;
import java.util.ArrayList;
import java.util.List;
import java.util.Map;
import java.util.TreeMap;
import java.util.regex.Matcher;
import java.util.regex.Pattern;

/**
 * The sentences of ../shared/DOC.md that have a test of their own. Each test names its sentence
 * first; at the end no word of the promises and of the terms may be left without a test.
 */
final class Sentences {
    static final int TERMS = 0;
    /** For words that stand elsewhere in the document. */
    static final int ELSEWHERE = -1;
    private static final int PROMISES = 33;
    private static final Path DOCUMENT = Path.of("../shared/DOC.md");

    /** The words that have been named, by their promise. */
    private static final Map<Integer, List<String>> named = new TreeMap<>();
    private static String last = "";
    private static int seenBefore;

    private Sentences() {
    }

    /** What is checked from here on is these words of a promise (or of the terms). */
    static void begin(int promise, String words) {
        endLast();
        String where = promise > TERMS ? "Promise " + promise : promise == TERMS ? "Terms" : "The document";
        last = where + ", \"" + words + "\"";
        named.computeIfAbsent(promise, p -> new ArrayList<>()).add(plain(words));
        Check.about(last);
    }

    private static void endLast() {
        Check.about("");
        if (!last.isEmpty()) {
            Check.isTrue(last + " has a test", Check.seen() > seenBefore);
        }
        last = "";
        seenBefore = Check.seen();
    }

    /** Every sentence that was named stands in the document, and each of the document's was named. */
    static void checkAll() throws Exception {
        endLast();
        if (!Files.exists(DOCUMENT)) {
            System.out.println("no " + DOCUMENT + ": its words are not compared");
            return;
        }
        String document = Files.readString(DOCUMENT);
        areSaid(ELSEWHERE, plain(document));
        areAllNamed(TERMS, termsOf(document));
        for (int promise = 1; promise <= PROMISES; promise++) {
            areAllNamed(promise, promiseOf(document, promise));
        }
    }

    private static void areSaid(int promise, String text) {
        for (String words : named.getOrDefault(promise, List.of())) {
            Check.isTrue("promise " + promise + " says \"" + words + "\"", text.contains(words));
        }
    }

    private static void areAllNamed(int promise, String text) {
        areSaid(promise, text);
        List<String> words = named.getOrDefault(promise, List.of());
        String left = text;
        // the longest go first, so that a word alone takes nothing out of a longer sentence
        List<String> longestFirst = new ArrayList<>(words);
        longestFirst.sort((a, b) -> b.length() - a.length());
        for (String each : longestFirst) {
            left = left.replace(each, "|");
        }
        Check.isTrue("promise " + promise + " has no test for: " + left, !left.matches(".*[A-Za-z0-9].*"));
    }

    private static String termsOf(String document) {
        int from = document.indexOf("## Terms") + "## Terms".length();
        int to = document.indexOf("Ahead of the calls", from);
        String terms = document.substring(from, to).replaceAll("```(text)?", " ");
        return plain(terms.replaceAll("==== \\d", " "));
    }

    /** A promise behind its heading and the head of its call. */
    private static String promiseOf(String document, int promise) {
        Matcher section = Pattern.compile("(?s)## Promise " + promise + ": [^\\n]*\\n+`[^`]*`: (.*?)(\\n## |$)").matcher(document);
        return section.find() ? plain(section.group(1)) : "";
    }

    private static String plain(String words) {
        return words.replaceAll("\\s+", " ").trim();
    }
}
