import java.io.IOException;
import java.lang.reflect.Method;
import java.lang.reflect.Modifier;
import java.nio.file.Files;
import java.nio.file.Path;
import java.util.Map;
import java.util.Set;
import java.util.TreeMap;
import java.util.TreeSet;
import java.util.regex.Matcher;
import java.util.regex.Pattern;

/**
 * README.md says how to use the class: each call stands in its tables, with the refusals that the
 * document tells of it, and its examples answer as they say. Run from the project's folder.
 */
public final class ReadmeTest {
    private static final Due due = new Due();
    private static final Path README = Path.of("README.md");
    private static final Path DOCUMENT = Path.of("../shared/DOC.md");
    private static final Pattern ROW = Pattern.compile("(?m)^\\| `(\\w+)\\((.*?)\\)` \\| (.+?) \\| (.*?) ?\\|$");
    private static final Pattern EXAMPLE = Pattern.compile("(?m)^x\\.(\\w+)\\((.*)\\); +// (-?\\d+)(:.*)?$");
    private static final Pattern REFUSAL = Pattern.compile("-\\d+|10000000\\d+");

    /** What a call may answer below 0, and how many arguments it takes. */
    private record Told(int arguments, Set<String> refusals) { }

    public static void main(String[] args) throws IOException {
        String readme = Files.readString(README);
        Map<String, Told> told = told(readme);
        face(told);
        examples(readme);
        if (Files.exists(DOCUMENT)) {
            refusals(told, Files.readString(DOCUMENT));
        }
        for (int n : new int[] {-1, -2, -3, -4, -11, -12, -13, -14, -15}) {
            due.holds("it is told what " + n + " is", readme.contains("\n| " + n + " | "));
        }
        due.holds("what throws", readme.contains("`IllegalArgumentException`") && readme.contains("`IllegalStateException`"));
        due.holds("how to run the tests", readme.contains("```\n.ci/run\n```"));
        testsAreTold(readme);
        due.end("ReadmeTest");
    }

    private static Map<String, Told> told(String readme) {
        Map<String, Told> told = new TreeMap<>();
        Matcher row = ROW.matcher(readme);
        while (row.find()) {
            int arguments = row.group(2).isEmpty() ? 0 : row.group(2).split(", ").length;
            due.holds(row.group(1) + " is told once", !told.containsKey(row.group(1)));
            told.put(row.group(1), new Told(arguments, refusalsOf(row.group(4))));
        }
        return told;
    }

    private static Set<String> refusalsOf(String text) {
        Set<String> all = new TreeSet<>();
        Matcher refusal = REFUSAL.matcher(text);
        while (refusal.find()) {
            all.add(refusal.group());
        }
        return all;
    }

    private static void face(Map<String, Told> told) {
        Set<String> names = new TreeSet<>();
        for (Method m : RubberBandsHoldFamilies.class.getDeclaredMethods()) {
            if (Modifier.isPublic(m.getModifiers())) {
                names.add(m.getName());
                Told row = told.get(m.getName());
                due.holds("the README tells of " + m, row != null && row.arguments() == m.getParameterCount());
            }
        }
        due.holds("the README tells of the face alone: " + told.keySet(), names.equals(told.keySet()));
    }

    /** The examples' blocks follow one another: their calls are made on one object. */
    private static void examples(String readme) {
        RubberBandsHoldFamilies x = new RubberBandsHoldFamilies();
        int lines = readme.split("\nx\\.", -1).length - 1;
        int read = 0;
        Matcher example = EXAMPLE.matcher(readme);
        while (example.find()) {
            read++;
            due.is(0, example.group(), Calls.ask(x, example.group(1), numbers(example.group(2))), Long.parseLong(example.group(3)));
        }
        due.is(0, "examples that could be read", read, lines);
        due.holds("there are examples", read > 10);
    }

    private static int[] numbers(String told) {
        String[] each = told.isEmpty() ? new String[0] : told.split(", ");
        int[] numbers = new int[each.length];
        for (int i = 0; i < each.length; i++) {
            numbers[i] = each[i].startsWith("'") ? each[i].charAt(1) : Integer.parseInt(each[i]);
        }
        return numbers;
    }

    private static void refusals(Map<String, Told> told, String document) {
        Matcher promise = Pattern.compile("(?m)^## Promise \\d+: (\\w+)\\s+`[^`]*`: (.*)$").matcher(document);
        int promises = 0;
        while (promise.find()) {
            Told row = told.get(promise.group(1));
            Set<String> want = refusalsOf(promise.group(2));
            if (promise.group(2).contains("Refused as told")) {
                want = Set.of("1000000001");
            }
            due.holds("refusals of " + promise.group(1) + ": " + want, row != null && row.refusals().equals(want));
            promises++;
        }
        due.is(0, "promises that tell of a call", promises, told.size());
    }

    /** Each test of the project is told of, by its name or by the end of it. */
    private static void testsAreTold(String readme) throws IOException {
        try (var files = Files.list(Path.of("src/test/java"))) {
            for (Path file : files.toList()) {
                String name = file.getFileName().toString().replace(".java", "");
                String kind = name.replaceFirst("^.*(?=PromisesTest|EdgesTest)", "*");
                boolean isShared = name.equals("Due") || name.equals("Calls");
                due.holds("the README tells of " + name, isShared || readme.contains("`" + kind + "`"));
            }
        }
    }
}
