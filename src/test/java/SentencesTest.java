import java.io.IOException;
import java.nio.file.DirectoryStream;
import java.nio.file.Files;
import java.nio.file.Path;
import java.util.ArrayList;
import java.util.List;
import java.util.regex.Matcher;
import java.util.regex.Pattern;

/**
 * Which sentences of the document the tests are about: the words that they quote by Check.says stand there, under
 * the promise with that number or in a part that it rests on, and each sentence of the promises and of these parts
 * is quoted. Run it in the project's folder.
 */
public final class SentencesTest {
    private static final Path DOCUMENT = Path.of("../shared/DOC.md");
    private static final Path TESTS = Path.of("src/test/java");

    /** Heads, and words that tell what the words behind them are about: there is no edge in them. */
    private static final List<String> NO_EDGES = List.of(
        "PIPES", "RUNS", "RULES", "SHEETS", "ERRORS", "Producers", "With one pipe", "With two pipes",
        "Way 0, asking", "Way 1, stepping", "Way 2, arrays",
        "A pipe is a text", "In the following, P and Q are pipes", "The rules rewrite a node",
        "n is the number of this node, m that of the t within it, a and b those of the r or i within it",
        "There are four sheets, 0 to 3", "An error is reported by the return value",
        "Returns the fault of the text", "Returns a property of a node of the plan", "Executes a run",
        "Returns a count", "Returns the count", "Returns a hash",
        "Stream fusion", "what later calls answer is free", "NONE"
    );

    /** Words of a test, and the promise that it says. */
    private static final class Quote {
        final int promise;
        final String words;

        Quote(int promise, String words) {
            this.promise = promise;
            this.words = words;
        }
    }

    private static String plain(String text) {
        return text.replaceAll("\\s+", " ").trim();
    }

    private static final Pattern SAYS = Pattern.compile("Check\\.says\\((\\d+), \"((?:[^\"]|\"\\s*\\+\\s*\")*)\"\\);");

    private static List<Quote> quotes() throws IOException {
        List<Quote> quotes = new ArrayList<>();
        try (DirectoryStream<Path> files = Files.newDirectoryStream(TESTS, "*Test.java")) {
            for (Path file : files) {
                Matcher m = SAYS.matcher(Files.readString(file));
                while (m.find()) {
                    String words = m.group(2).replaceAll("\"\\s*\\+\\s*\"", "");
                    quotes.add(new Quote(Integer.parseInt(m.group(1)), plain(words)));
                }
            }
        }
        return quotes;
    }

    private static String between(String text, String begin, String end) {
        int from = text.indexOf(begin);
        int to = text.indexOf(end, from + 1);
        Check.that("the document has " + begin, from >= 0 && to > from);
        return from < 0 || to <= from ? "" : text.substring(from + begin.length(), to);
    }

    private static void quotesStand(List<Quote> quotes, String parts, String[] promises) {
        for (Quote quote : quotes) {
            boolean known = quote.promise >= 1 && quote.promise <= 24;
            Check.that("a promise with the number " + quote.promise, known);
            if (!known) continue;
            boolean stands = plain(promises[quote.promise]).contains(quote.words) || parts.contains(quote.words);
            Check.that("promise " + quote.promise + " says: " + quote.words, stands);
        }
    }

    private static boolean isQuoted(String sentence, List<Quote> quotes, int promise) {
        for (Quote quote : quotes) {
            boolean here = promise == 0 || quote.promise == promise;
            if (here && (quote.words.contains(sentence) || sentence.contains(quote.words))) return true;
        }
        return false;
    }

    /** A text in its sentences, without the signs around them; a line with a dash begins one. */
    private static List<String> sentences(String text) {
        List<String> sentences = new ArrayList<>();
        for (String part : text.split("\\n\\s*\\n|\\n- ")) {
            for (String words : plain(part).split("(?<=[.;:])\\s+(?!;)")) {
                String bare = words.replaceAll("[.;:,]+$", "").replaceAll("^- ", "");
                if (!bare.isEmpty()) sentences.add(bare);
            }
        }
        return sentences;
    }

    private static void sentencesAreQuoted(String text, List<Quote> quotes, int promise) {
        for (String sentence : sentences(text)) {
            // A number or a letter before a colon alone, and an argument that has no bounds.
            if (sentence.length() <= 2 || NO_EDGES.contains(sentence) || sentence.matches("`[a-z]+`")) continue;
            Check.that((promise == 0 ? "a part" : "promise " + promise) + " is tested where it says: " + sentence,
                isQuoted(sentence, quotes, promise));
        }
    }

    public static void main(String[] args) throws IOException {
        if (!Files.isReadable(DOCUMENT)) {
            System.out.println("SentencesTest: there is no " + DOCUMENT + " to look the sentences up in");
            return;
        }
        String document = Files.readString(DOCUMENT);
        String parts = between(document, "\n## What it is\n", "\n## The public face\n")
            + between(document, "\n## Description\n", "\nExamples:")
            + between(document, "\nThe constants:\n", "\nThe constructor and the methods follow");
        String[] promises = new String[25];
        List<Quote> quotes = quotes();
        for (int k = 1; k <= 24; k++) {
            String text = between(document, "\n## Promise " + k + ":", "\n## ");
            promises[k] = text.replaceAll("(?m)^ [a-zA-Z ]+$|^`.*\\)`$|^---- .*$", "");
            sentencesAreQuoted(promises[k], quotes, k);
        }
        sentencesAreQuoted(parts, quotes, 0);
        quotesStand(quotes, plain(parts), promises);
        Check.end("SentencesTest");
    }
}
