import java.io.ByteArrayOutputStream;
import java.io.IOException;
import java.io.PrintStream;
import java.lang.reflect.Method;
import java.lang.reflect.Modifier;
import java.nio.charset.StandardCharsets;
import java.nio.file.DirectoryStream;
import java.nio.file.Files;
import java.nio.file.Path;
import java.util.ArrayList;
import java.util.List;
import java.util.Map;
import java.util.Set;
import java.util.TreeMap;
import java.util.TreeSet;
import java.util.function.Supplier;
import java.util.regex.Matcher;
import java.util.regex.Pattern;

/** What README.md says of the class and of the tests holds. Run from the project's folder. */
public final class ReadmeTest {
    private static final Path TESTS = Path.of("src/test/java");
    private static final Map<String, Integer> ERRORS = Map.of("BAD", RingPuzzle.BAD, "STATE", RingPuzzle.STATE,
            "FULL", RingPuzzle.FULL, "NONE", RingPuzzle.NONE);
    private static final Check check = new Check("ReadmeTest");

    private final String readme;

    private ReadmeTest(String readme) {
        this.readme = readme;
    }

    /** The lines between a line that begins so and the next "```". */
    private String block(String begin) {
        int from = readme.indexOf('\n', readme.indexOf(begin)) + 1;
        return readme.substring(from, readme.indexOf("```", from));
    }

    /** The cells of the rows of a table, without its head. */
    private List<String[]> table(String head) {
        List<String[]> rows = new ArrayList<>();
        int from = readme.indexOf('\n', readme.indexOf("\n" + head) + 1) + 1;
        for (String line : readme.substring(from).split("\n")) {
            if (!line.startsWith("|")) {
                break;
            }
            if (!line.startsWith("| ---")) {
                String[] cells = line.substring(1, line.length() - 1).split("\\|", -1);
                for (int i = 0; i < cells.length; i++) {
                    cells[i] = cells[i].substring(1).replaceAll(" $", "");
                }
                rows.add(cells);
            }
        }
        check.holds("there is the table " + head, readme.contains("\n" + head) && rows.size() > 1);
        return rows;
    }

    private static String stripped(String lines) {
        return lines.replaceAll("[ \r]+\n", "\n").strip();
    }

    private void example() throws IOException {
        check.holds("the example is ReadmeExample.java",
                block("```java").equals(Files.readString(TESTS.resolve("ReadmeExample.java"))));
        ByteArrayOutputStream printed = new ByteArrayOutputStream();
        PrintStream before = System.out;
        System.setOut(new PrintStream(printed, true, StandardCharsets.UTF_8));
        ReadmeExample.main(new String[0]);
        System.setOut(before);
        int prints = readme.indexOf("and prints");
        String due = readme.substring(readme.indexOf("```\n", prints) + 4);
        due = due.substring(0, due.indexOf("```"));
        check.holds("the example prints this", stripped(printed.toString(StandardCharsets.UTF_8)).equals(stripped(due)));
    }

    /** Draws the picture of the numbers anew, from the edges that edgeAt() tells. */
    private void numbers() {
        RingPuzzle x = Puzzles.of("../..");
        StringBuilder picture = new StringBuilder();
        for (int row = 0; row <= 2; row++) {
            int corner = row * 3;
            picture.append(String.format("    +---+---+    %d---%d---%d    +-%d-+-%d-+\n", corner, corner + 1, corner + 2,
                    edgeBetween(x, corner, corner + 1), edgeBetween(x, corner + 1, corner + 2)));
            if (row < 2) {
                int cell = row * 2;
                check.due("the edge above cell " + cell, x.edgeAt(false, cell, 0), edgeBetween(x, corner, corner + 1));
                check.due("the edge below cell " + cell, x.edgeAt(false, cell, 1), edgeBetween(x, corner + 3, corner + 4));
                check.due("the edge left of cell " + cell, x.edgeAt(false, cell, 2), edgeBetween(x, corner, corner + 3));
                picture.append(String.format("    | %d | %d |    |   |   |    %-4d%-4d%d\n", cell, cell + 1,
                        edgeBetween(x, corner, corner + 3), edgeBetween(x, corner + 1, corner + 4),
                        edgeBetween(x, corner + 2, corner + 5)));
            }
        }
        check.holds("the picture of the numbers:\n" + picture, readme.contains(picture));
    }

    private static int edgeBetween(RingPuzzle x, int corner, int other) {
        for (int i = 0; i < 4; i++) {
            for (int j = 0; j < 4; j++) {
                int edge = x.edgeAt(true, corner, i);
                if (edge >= 0 && edge == x.edgeAt(true, other, j)) {
                    return edge;
                }
            }
        }
        return RingPuzzle.NONE;
    }

    private static int told(String cell) {
        String word = cell.replace("`", "");
        return ERRORS.containsKey(word) ? ERRORS.get(word) : Integer.parseInt(word);
    }

    private void texts() {
        for (String[] row : table("| text | `fault()` | `setPuzzle()` |")) {
            String text = row[0].equals("(none)") ? "" : row[0].substring(1, row[0].length() - 1);
            RingPuzzle x = new RingPuzzle();
            Puzzles.typeAll(x, text);
            check.due("fault() of \"" + text + "\"", x.fault(), told(row[1]));
            check.due("setPuzzle() of \"" + text + "\"", x.setPuzzle(), told(row[2]));
        }
    }

    private static RingPuzzle withFullText() {
        RingPuzzle x = Puzzles.of("3");
        Puzzles.typeAll(x, " ".repeat(40));
        return x;
    }

    private static Object argument(Class<?> type, int value) {
        return type == boolean.class ? (Object) (value > 0) : (Object) value;
    }

    /** The answers to calls with arguments of all kinds in states of all kinds. */
    private static Set<Long> answers(Method method) throws ReflectiveOperationException {
        List<Supplier<RingPuzzle>> states = List.of(RingPuzzle::new, () -> Puzzles.of("33/.."), ReadmeTest::withFullText,
                () -> Puzzles.with(Puzzles.of("0"), "d 1"), () -> Puzzles.with(Puzzles.of("."), "d 0 1 2 3"));
        int[] values = {-1, 0, 1, 200};
        Class<?>[] types = method.getParameterTypes();
        Set<Long> answers = new TreeSet<>();
        for (Supplier<RingPuzzle> state : states) {
            for (int choice = 0; choice < 1 << 2 * types.length; choice++) {
                Object[] arguments = new Object[types.length];
                for (int i = 0; i < types.length; i++) {
                    arguments[i] = argument(types[i], values[choice >> 2 * i & 3]);
                }
                answers.add(((Number) method.invoke(state.get(), arguments)).longValue());
            }
        }
        return answers;
    }

    private void methods() throws ReflectiveOperationException {
        Map<String, Method> face = new TreeMap<>();
        for (Method method : RingPuzzle.class.getDeclaredMethods()) {
            if (Modifier.isPublic(method.getModifiers())) {
                face.put(method.getName(), method);
            }
        }
        for (String[] row : table("| call | what it does | what it answers | errors |")) {
            Matcher call = Pattern.compile("`(\\w+)\\((.*)\\)`").matcher(row[0]);
            Method method = call.matches() ? face.remove(call.group(1)) : null;
            check.holds(row[0] + " is a method", method != null);
            if (method == null) {
                continue;
            }
            int parameters = call.group(2).isEmpty() ? 0 : call.group(2).split(",").length;
            check.due("parameters of " + row[0], parameters, method.getParameterCount());
            Set<Long> answers = answers(method);
            for (String error : new String[] {"BAD", "STATE", "FULL"}) {
                check.due(row[0] + " can answer " + error, answers.contains((long) ERRORS.get(error)) ? 1 : 0,
                        row[3].contains("`" + error + "`") ? 1 : 0);
            }
            boolean isSaid = (row[1] + row[2]).contains("`NONE`");
            check.due(row[0] + " can answer NONE", answers.contains((long) RingPuzzle.NONE) ? 1 : 0, isSaid ? 1 : 0);
        }
        check.holds("methods that the table does not tell: " + face.keySet(), face.isEmpty());
    }

    /** A puzzle at which a rule is the next one. */
    private static RingPuzzle atRule(int rule) {
        String[][] puzzles = {{"0", ""}, {"3", "o 0"}, {"../..", "d 0 1"}, {"...", "o 0"}, {"...", "d 0"}, {"..0/2.1", ""},
            {"3", ""}, {"33", ""}};
        RingPuzzle x = Puzzles.with(Puzzles.of(puzzles[rule][0]), puzzles[rule][1]);
        for (int times = 0; times < 40 && x.hint(0) >= 0 && x.hint(0) != rule; times++) {
            x.deduce();
        }
        return x;
    }

    private int[] rules() {
        List<String[]> rows = table("| rule | grade | where | when | the edge becomes |");
        int[] grades = new int[8];
        check.due("rows of the table of rules", rows.size(), 8);
        for (int rule = 0; rule < 8 && rows.size() == 8; rule++) {
            String[] row = rows.get(rule);
            RingPuzzle x = atRule(rule);
            check.due("the rule in row " + rule, told(row[0]), rule);
            check.due("hint(0) at rule " + rule, x.hint(0), rule);
            check.due("hint(2) at rule " + rule, x.hint(2), row[4].equals("drawn") ? 1 : 2);
            check.due("hint(3) is told at rule " + rule, x.hint(3) == RingPuzzle.NONE ? 0 : 1, row[2].equals("edge") ? 0 : 1);
            check.holds("a cell or a corner", row[2].equals(rule < 2 ? "cell" : rule < 5 ? "corner" : "edge"));
            grades[rule] = told(row[1]);
        }
        return grades;
    }

    private static void grades(int[] grades) {
        for (String text : new String[] {"231/320/100", ".10", "..0/2.1", "33", "3/.", "33/..", "222/333/101", ".31/3.0"}) {
            RingPuzzle x = Puzzles.of(text);
            x.deduceAll(7);
            int greatest = RingPuzzle.NONE;
            for (int rule = 0; rule < 8; rule++) {
                greatest = x.count(6 + rule) > 0 ? Math.max(greatest, grades[rule]) : greatest;
            }
            check.due("grade() of " + text, x.grade(), greatest);
        }
    }

    private void errors() {
        for (Map.Entry<String, Integer> error : ERRORS.entrySet()) {
            check.holds(error + " is told", readme.contains("`" + error.getKey() + "` (" + error.getValue() + ")"));
        }
    }

    /** Files and tests that are named exist, and each test is named. */
    private void tests() throws IOException {
        Matcher file = Pattern.compile("[\\w./]+/[\\w.]+\\.(java|md)").matcher(readme);
        int files = 0;
        while (file.find()) {
            files++;
            check.holds(file.group() + " exists", Files.exists(Path.of(file.group())));
        }
        check.holds("files are named", files > 0);
        check.holds(".ci/run can be run", readme.contains("\n    .ci/run\n") && Files.isExecutable(Path.of(".ci/run")));
        Matcher test = Pattern.compile("\\b(\\w+Test|PlainRing)\\b").matcher(readme);
        Set<String> named = new TreeSet<>();
        while (test.find()) {
            named.add(test.group());
            check.holds(test.group() + " exists", Files.exists(TESTS.resolve(test.group() + ".java")));
        }
        int boundaries = 0;
        try (DirectoryStream<Path> all = Files.newDirectoryStream(TESTS)) {
            for (Path path : all) {
                String name = path.getFileName().toString().replace(".java", "");
                check.holds(name + " is named", !name.endsWith("Test") || named.contains(name));
                boundaries += name.endsWith("Boundaries") ? 1 : 0;
            }
        }
        check.due("files *Boundaries.java", boundaries, 6);
    }

    public static void main(String[] args) throws IOException, ReflectiveOperationException {
        ReadmeTest test = new ReadmeTest(Files.readString(Path.of("README.md")));
        test.example();
        test.numbers();
        test.texts();
        test.methods();
        grades(test.rules());
        test.errors();
        test.tests();
        check.end();
    }
}
