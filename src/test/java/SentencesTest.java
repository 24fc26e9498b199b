import java.io.IOException;
import java.nio.file.Files;
import java.nio.file.Path;
import java.util.ArrayList;
import java.util.List;
import java.util.regex.Matcher;
import java.util.regex.Pattern;
import java.util.stream.Stream;

/**
 * Holds the edges' tests against the document: each sentence that they stand for stands there word by
 * word, and of its terms and promises no sentence is left without a test beside it.
 */
public final class SentencesTest {
    private static final Due due = new Due();
    private static final Path DOCUMENT = Path.of("../shared/DOC.md");
    private static final Path TESTS = Path.of("src/test/java");
    private static final Pattern SAYS =
        Pattern.compile("edge\\.says\\(\\s*(?:(\\d+),\\s*)?((?:\"(?:[^\"\\\\]|\\\\.)*\"\\s*\\+?\\s*)+)\\);");
    private static final Pattern LITERAL = Pattern.compile("\"((?:[^\"\\\\]|\\\\.)*)\"");

    /** What of the terms says nothing that could be tested by itself. */
    private static final String[] HEADINGS = {
        "```text", "```", "==== II.", "==== III.", "Said once more:", "Their REFUSALS:"
    };

    public static void main(String[] args) throws IOException {
        if (!Files.exists(DOCUMENT)) {
            System.out.println("SentencesTest: no " + DOCUMENT + " to hold the sentences against");
            return;
        }
        String document = Files.readString(DOCUMENT);
        String terms = flat(between(document, "## Terms", "Ahead of the calls `town`"));
        List<String> promises = promises(document);
        due.is(0, "promises in the document", promises.size() - 1, 45);
        boolean[] told = new boolean[terms.length()];
        boolean[] promised = new boolean[promises.size()];
        for (Matcher says : allSayings()) {
            String sentence = sentence(says.group(2));
            if (says.group(1) == null) {
                mark(document, terms, told, sentence);
            } else {
                int n = Integer.parseInt(says.group(1));
                due.holds("stands at promise " + n + ": " + sentence, promises.get(n).equals(sentence));
                promised[n] = true;
            }
        }
        for (int n = 1; n < promised.length; n++) {
            due.holds("promise " + n + " has a test beside it", promised[n]);
        }
        lookForUntold(terms, told);
        due.end("SentencesTest");
    }

    private static void mark(String document, String terms, boolean[] told, String sentence) {
        due.holds("stands in the document: " + sentence, flat(document).contains(sentence));
        for (int at = terms.indexOf(sentence); at >= 0; at = terms.indexOf(sentence, at + 1)) {
            java.util.Arrays.fill(told, at, at + sentence.length(), true);
        }
    }

    private static void lookForUntold(String terms, boolean[] told) {
        StringBuilder left = new StringBuilder();
        for (int i = 0; i < told.length; i++) {
            left.append(told[i] ? '\n' : terms.charAt(i));
        }
        String untold = left.toString();
        for (String heading : HEADINGS) {
            untold = untold.replace(heading, "\n");
        }
        for (String piece : untold.split("\n+")) {
            due.holds("has a test beside it: " + piece, !piece.matches(".*\\w.*"));
        }
    }

    private static List<Matcher> allSayings() throws IOException {
        List<Matcher> all = new ArrayList<>();
        try (Stream<Path> files = Files.list(TESTS)) {
            for (Path file : files.filter(f -> f.toString().endsWith("EdgesTest.java")).sorted().toList()) {
                String source = Files.readString(file);
                int begun = source.split("edge\\.says\\(", -1).length - 1;
                Matcher says = SAYS.matcher(source);
                int read = 0;
                while (says.find()) {
                    read++;
                    Matcher one = SAYS.matcher(says.group());
                    one.find();
                    all.add(one);
                }
                due.is(0, "sentences read from " + file, read, begun);
            }
        }
        return all;
    }

    private static String sentence(String literals) {
        StringBuilder whole = new StringBuilder();
        Matcher literal = LITERAL.matcher(literals);
        while (literal.find()) {
            whole.append(literal.group(1).replace("\\\"", "\""));
        }
        return whole.toString();
    }

    /** By numbers, what each promise says behind its call; none at 0. */
    private static List<String> promises(String document) {
        List<String> all = new ArrayList<>();
        all.add("");
        Matcher promise = Pattern.compile("(?m)^## Promise \\d+: .*\\s+`[^`]*`: (.*)$").matcher(document);
        while (promise.find()) {
            all.add(flat(promise.group(1)));
        }
        return all;
    }

    private static String between(String document, String first, String behind) {
        return document.substring(document.indexOf(first) + first.length(), document.indexOf(behind));
    }

    private static String flat(String text) {
        return text.replaceAll("\\s+", " ").trim();
    }
}
