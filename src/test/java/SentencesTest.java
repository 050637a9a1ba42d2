import java.io.IOException;
import java.nio.file.Files;
import java.nio.file.Path;
import java.util.ArrayList;
import java.util.HashMap;
import java.util.List;
import java.util.Map;
import java.util.regex.Matcher;
import java.util.regex.Pattern;
import java.util.stream.Stream;

/**
 * Quotes in the tests stand in the document, where the promise that they are told of can bear them,
 * and every sentence of the terms and of each promise is quoted by a test.
 */
public final class SentencesTest {
    private static final int PROMISES = 18;
    private static final String TEXT = "\"(?:[^\"\\\\]|\\\\.)*\"";
    private static final String TEXTS = TEXT + "(?:\\s*\\+\\s*" + TEXT + ")*";
    private static final Pattern NAMED = Pattern.compile("String ([A-Z_]+) = (" + TEXTS + ");");
    private static final Pattern QUOTED = Pattern.compile("\\bby\\((\\d+), ([A-Z_]+|" + TEXTS + ")\\);");

    private record Quote(int promise, String words) {
    }

    private SentencesTest() {
    }

    private static String plain(String words) {
        return words.replaceAll("\\s+", " ").trim();
    }

    /** The words from a heading on up to the next one. */
    private static String section(String document, String heading) {
        int at = document.indexOf("\n## " + heading);
        Due.isTrue("the document has " + heading, at >= 0);
        if (at < 0) return "";
        int from = document.indexOf("\n", at + 1);
        int to = document.indexOf("\n## ", from);
        return plain(document.substring(from, to < 0 ? document.length() : to).replaceAll("```(text)?", ""));
    }

    private static String unquoted(String texts) {
        StringBuilder words = new StringBuilder();
        Matcher text = Pattern.compile(TEXT).matcher(texts);
        while (text.find()) words.append(text.group(), 1, text.group().length() - 1);
        return words.toString();
    }

    private static List<Quote> quotesIn(String source) {
        Map<String, String> named = new HashMap<>();
        Matcher name = NAMED.matcher(source);
        while (name.find()) named.put(name.group(1), unquoted(name.group(2)));
        List<Quote> quotes = new ArrayList<>();
        Matcher quote = QUOTED.matcher(source);
        while (quote.find()) {
            String words = quote.group(2);
            boolean isName = !words.startsWith("\"");
            quotes.add(new Quote(Integer.parseInt(quote.group(1)),
                    isName ? named.getOrDefault(words, words) : unquoted(words)));
        }
        return quotes;
    }

    private static List<Quote> quotes() throws IOException {
        List<Quote> quotes = new ArrayList<>();
        try (Stream<Path> files = Files.list(Path.of("src/test/java"))) {
            for (Path file : files.filter(f -> f.toString().endsWith("Test.java")).sorted().toList()) {
                quotes.addAll(quotesIn(Files.readString(file)));
            }
        }
        return quotes;
    }

    /** Numbers such as 1 .. 16 have points, too, but no capital behind them. */
    private static String[] sentences(String words) {
        return words.replaceAll("Ahead of the calls.*", "").split("(?<=\\.)\\s+(?=[A-Z=])");
    }

    private static boolean isQuoted(String sentence, List<Quote> quotes) {
        return quotes.stream().anyMatch(quote -> sentence.contains(quote.words));
    }

    public static void main(String[] args) throws IOException {
        String document = Files.readString(Path.of("../shared/DOC.md"));
        String terms = section(document, "Terms");
        String whole = section(document, "What it is") + " " + terms;
        List<Quote> quotes = quotes();
        for (String sentence : sentences(terms)) {
            Due.isTrue("that a test quotes '" + sentence + "'", isQuoted(sentence, quotes));
        }
        for (int n = 1; n <= PROMISES; n++) {
            int promise = n;
            String words = section(document, "Promise " + n + ":");
            List<Quote> own = quotes.stream().filter(quote -> quote.promise == promise).toList();
            for (String sentence : sentences(words)) {
                Due.isTrue("that a test of promise " + n + " quotes '" + sentence + "'", isQuoted(sentence, own));
            }
            for (Quote quote : own) {
                Due.isTrue("that the document has '" + quote.words + "' for promise " + n,
                        words.contains(quote.words) || whole.contains(quote.words));
            }
            boolean refuses = own.stream().anyMatch(quote -> quote.words.startsWith("REFUSALS"));
            Due.isTrue("that refused calls of promise " + n + " are tested", n == 1 || refuses);
        }
        Due.end();
    }
}
