import java.nio.file.Files;
import java.nio.file.Path;
import java.util.Set;
import java.util.TreeSet;
import java.util.regex.Matcher;
import java.util.regex.Pattern;

/** What of LANGUAGE.md can be seen in the text of the program; run from the project's folder. */
public final class LanguageTest {
    private static final Due due = new Due();
    private static final Path SOURCE = Path.of("src/main/java/RubberBandsHoldFamilies.java");

    private static final String[] RULED_OUT = {
        "\\bimport\\b", "\\bpackage\\b", "->", "::", "\\bfinally\\b", "\\bsynchronized\\b", "\\bassert\\b",
        "\\bstatic\\s*\\{", "\\bprotected\\b", "\\btry\\s*\\(", "\\bThread\\b", "\\bObject\\b", "Exact\\s*\\(",
        "catch\\s*\\(\\s*(Exception|Throwable|RuntimeException|IndexOutOfBounds|Arithmetic|NullPointer|ClassCast|Negative|ArrayStore)",
        "\\bextends\\s+\\w*Exception", "\\bnew\\s+int\\s*\\[\\s*\\]", "\\bvar\\b", "\\bnative\\b", "\\bvolatile\\b"
    };

    private static final Set<String> LIBRARY = Set.of(
        "Math.min", "Math.max", "Math.abs", "Integer.bitCount", "System.arraycopy");

    private static final int LONGEST_METHOD = 60;

    public static void main(String[] args) throws Exception {
        String source = Files.readString(SOURCE);
        due.holds("signs 1 to 127", source.chars().allMatch(c -> c > 0 && c < 128));
        String code = source.replaceAll("(?s)/\\*.*?\\*/", "").replaceAll("//[^\n]*", "").replaceAll("\"[^\"\n]*\"", "\"\"");
        for (String no : RULED_OUT) {
            due.holds("nothing like " + no, !Pattern.compile(no).matcher(code).find());
        }
        Set<String> used = new TreeSet<>();
        Matcher calls = Pattern.compile("\\b(Math|Integer|Long|System|Arrays|String|Byte|Short|Character)\\s*\\.\\s*\\w+").matcher(code);
        while (calls.find()) {
            used.add(calls.group());
        }
        used.removeAll(LIBRARY);
        due.holds("of the library only what is listed, not " + used, used.isEmpty());
        due.holds("rows are made in fields only", newsInMethods(code) == 0);
        lengths(code);
        due.end("LanguageTest");
    }

    /** Rows that are made elsewhere than in a field's own line. */
    private static int newsInMethods(String code) {
        int n = 0;
        for (String line : code.split("\n")) {
            if (line.matches(".*\\bnew\\s+\\w+\\s*\\[.*") && !line.matches("\\s*(private )?final \\w+(\\[\\])+ \\w+ = new .*")) {
                n++;
            }
        }
        return n;
    }

    private static void lengths(String code) {
        int depth = 0;
        int begun = 0;
        int line = 0;
        for (String text : code.split("\n")) {
            line++;
            boolean isMethod = text.matches("\\s{4,8}[\\w\\[\\] ]+\\(.*\\).*\\{\\s*");
            if (isMethod) {
                begun = line;
                depth = 0;
            }
            depth += text.length() - text.replace("{", "").length();
            depth -= text.length() - text.replace("}", "").length();
            if (begun > 0 && depth == 0) {
                due.holds("the method that begins " + (line - begun) + " lines ahead of " + text, line - begun <= LONGEST_METHOD);
                begun = 0;
            }
        }
    }
}
