import java.io.IOException;
import java.nio.file.Files;
import java.nio.file.Path;
import java.util.Set;
import java.util.regex.Matcher;
import java.util.regex.Pattern;

/** What can be seen of the rules of LANGUAGE.md in the text of the program. Run from the project's folder. */
public final class LanguageTest {
    private static final Check check = new Check("LanguageTest");
    private static final Set<String> CALLS = Set.of("Long.bitCount", "Math.max", "Math.min", "Math.floorMod");
    private static final String WORDS = "throw|throws|try|catch|finally|synchronized|assert|package|import|native"
            + "|volatile|transient|strictfp|enum|record|interface|goto|Object|Exception|System|Thread";

    /** The program without comments and with empty strings and characters. */
    private static String bare(String program) {
        String text = program.replaceAll("(?s)/\\*.*?\\*/", " ").replaceAll("//[^\n]*", " ");
        return text.replaceAll("\"(\\\\.|[^\"\\\\])*\"", "\"\"").replaceAll("'(\\\\.|[^'\\\\])'", "0");
    }

    private static void absent(String program, String pattern) {
        Matcher found = Pattern.compile(pattern).matcher(program);
        check.holds("no " + pattern, !found.find());
    }

    private static void libraryCalls(String program) {
        Matcher call = Pattern.compile("\\b([A-Z]\\w*[a-z]\\w*)\\.(\\w+)\\s*\\(").matcher(program);
        int calls = 0;
        while (call.find()) {
            calls++;
            check.holds(call.group(1) + "." + call.group(2) + " is listed", CALLS.contains(call.group(1) + "." + call.group(2)));
        }
        check.holds("there are calls of the library", calls > 0);
    }

    /** Each loop names the bound at which it ends. */
    private static void loops(String program) {
        Matcher loop = Pattern.compile("\\b(for|while) \\(([^\n]*)\\) \\{").matcher(program);
        int loops = 0;
        while (loop.find()) {
            loops++;
            check.holds("a counter against a bound in: " + loop.group(), loop.group(2).matches(".*\\w+ <=? [\\w.]+.*"));
        }
        Matcher all = Pattern.compile("\\b(for|while|do)\\b").matcher(program);
        int words = 0;
        while (all.find()) {
            words++;
        }
        check.due("loops of another form", words - loops, 0);
    }

    private static void lengths(String program) {
        int depth = 0;
        int first = 0;
        String[] lines = program.split("\n");
        for (int i = 0; i < lines.length; i++) {
            boolean opens = lines[i].matches("\\s+[\\w<>\\[\\] ]+\\([^;]*\\) \\{") && !lines[i].matches("\\s*\\}?\\s*(if|for|while|switch|else)\\b.*");
            if (opens) {
                first = i;
                depth = lines[i].indexOf(lines[i].trim());
            }
            if (lines[i].length() > depth && lines[i].equals(" ".repeat(depth) + "}")) {
                check.holds("sixty lines at most behind line " + (first + 1), i - first < 60);
            }
        }
    }

    public static void main(String[] args) throws IOException {
        String program = bare(Files.readString(Path.of("src/main/java/RingPuzzle.java")));
        absent(program, "\\b(" + WORDS + ")\\b");
        absent(program, "->|::");
        absent(program, "\\b(equals|hashCode|toString|getClass|clone)\\b");
        absent(program, "\\w+Exact\\b");
        absent(program, "\\[\\]\\s*\\[\\]");
        absent(program, "static \\{");
        absent(program, "[^\\x00-\\x7f]");
        // The program needs no division, so there is no divisor to be tested.
        absent(program, "[ (]/[ =]|[%]");
        absent(program, "@");
        libraryCalls(program);
        loops(program);
        lengths(program);
        check.end();
    }
}
