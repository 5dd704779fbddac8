import java.io.IOException;
import java.nio.file.Files;
import java.nio.file.Path;
import java.util.regex.Matcher;
import java.util.regex.Pattern;

/** The source keeps to those rules of LANGUAGE.md that can be seen in its words. */
public final class LanguageTest {
    private static final String[] FORBIDDEN = {
        "\\b(throw|throws|try|catch|synchronized|assert|package|protected|volatile|native)\\b",
        "->", "::", "\\bstatic\\s*\\{", "Exact\\s*\\(", "\\bimport\\b(?!\\s+java\\.util\\.)",
        "\\b(System\\.(?!arraycopy)\\w+|Random|Thread|Object|double|float)\\b", "\\\"[^\\\"]*\\\"\\s*\\+",
        "\\bwhile\\s*\\(\\s*true", "for\\s*\\(\\s*;\\s*;",
    };

    public static void main(String[] args) throws IOException {
        Check check = new Check("LanguageTest");
        String source = Files.readString(Path.of("src/main/java/RowsMeet.java"));
        String code = source.replaceAll("(?s)/\\*.*?\\*/", "").replaceAll("//[^\\n]*", "");
        for (String word : FORBIDDEN) {
            Matcher found = Pattern.compile(word).matcher(code);
            check.holds("nothing like " + word + (found.find() ? ": " + found.group() : ""), !found.reset().find());
        }
        check.holds("only ASCII", source.chars().allMatch(c -> c < 128));
        checkLengths(check, code);
        checkMaking(check, code);
        check.end();
    }

    /** Objects and arrays are made only for fields, so that no call needs more room than the object has. */
    private static void checkMaking(Check check, String code) {
        Matcher made = Pattern.compile("(?m)^.*\\bnew\\b.*$").matcher(code);
        int found = 0;
        while (made.find()) {
            String line = made.group().trim();
            check.holds("made for a field: " + line, line.matches("(private final [\\w\\[\\]]+ )?\\w+ = new .*;"));
            found++;
        }
        check.holds("something is made", found > 10);
        check.holds("nothing is copied", !code.contains("clone(") && !code.contains("copyOf"));
    }

    /** No method has more than sixty lines or seven parameters, and there are at most twelve classes. */
    private static void checkLengths(Check check, String code) {
        Pattern head = Pattern.compile("(?m)^( {4}| {8})(?:\\w[\\w\\[\\]]* )*(\\w+)\\(([^()]*)\\) \\{$");
        Matcher heads = head.matcher(code);
        int methods = 0;
        while (heads.find()) {
            int end = code.indexOf("\n" + heads.group(1) + "}", heads.end());
            long lines = code.substring(heads.start(), end).chars().filter(c -> c == '\n').count() + 1;
            check.holds(heads.group(2) + " is short", lines <= 60);
            check.holds(heads.group(2) + " has few parameters", heads.group(3).split(",").length <= 7);
            methods++;
        }
        check.holds("methods were found", methods > 60);
        Matcher classes = Pattern.compile("\\b(class|enum|record|interface) \\w+").matcher(code);
        check.holds("at most twelve classes", classes.results().count() <= 12);
    }
}
