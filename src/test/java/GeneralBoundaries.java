import java.util.List;
import java.util.function.Consumer;

/** Sentences that tell what the class and its methods are about, ahead of all boundary cases. */
final class GeneralBoundaries {
    private static final int NONE = RingPuzzle.NONE;
    /** Puzzles that all rules together solve, of the grades 1 to 4. */
    private static final List<String> SOLVABLE = List.of("231/320/100", ".10", "..0/2.1", "33/..", "222/333/101", ".3./2.2",
            "2310/3200/1000/0000");

    private GeneralBoundaries() {
    }

    static void tell(Sentences s) {
        s.test("10, 15, 18, 20", "A puzzle of one ring: on a grid of cells, some of which have counts, edges are drawn such that they form "
                + "one closed ring and each count is the number of drawn edges around its cell.", GeneralBoundaries::oneRing);
        s.test("7, 13, 22", "The class keeps what is drawn and what is ruled out,", GeneralBoundaries::keepsMarks);
        s.test("9, 21", "makes deductions that have names and grades, one at a time,", GeneralBoundaries::oneAtATime);
        s.test("15, 18", "tells where things do not fit, and counts solutions.", GeneralBoundaries::tellsAndCounts);
        s.test("5", "Puzzles are read from texts.", GeneralBoundaries::readFromTexts);
        s.test("9, 16", "Each deduction is the first one that a list of rules allows, and is told with its rule and its place.",
                GeneralBoundaries::toldWithRuleAndPlace);
        s.test("5, 6, 7, 8, 9, 10, 11", "Changes can be undone.", GeneralBoundaries::changesAreUndone);
        s.test("4", "Returns the fault of the text.", GeneralBoundaries::faultOfTheText);
        s.test("6", "Sets the count of a cell.", GeneralBoundaries::setsOneCount);
        s.test("9", "Makes the next deduction.", GeneralBoundaries::makesTheNextOne);
        s.test("11", "Restores the latest state of the history.", GeneralBoundaries::latestState);
        s.test("12", "Returns the count of a cell.", GeneralBoundaries::countOfEachCell);
        s.test("13", "Returns the mark of an edge.", GeneralBoundaries::markOfEachEdge);
        s.test("14", "Returns an edge of a cell or of a corner.", GeneralBoundaries::edgesOfPlaces);
        s.test("15", "Tells what does not fit.", GeneralBoundaries::whatDoesNotFit);
        s.test("22", "Returns a number.", GeneralBoundaries::allNumbers);
        s.test("23", "Returns a digest.", GeneralBoundaries::sameDigest);
        s.test("23", "Returns h.", GeneralBoundaries::returnsH);
        tellWithout(s);
    }

    /** What can be asked of no object. */
    private static void tellWithout(Sentences s) {
        s.without(1, "How the state is held inside the object is free, as are the speed of each call, the text of toString and the "
                + "behaviour of equals and hashCode. Use of one object from several threads at once is not promised to be safe. "
                + "Nothing is promised beyond the answers and state changes described above, and nothing about an object after its "
                + "512th call.");
        s.without(1, "The constants:");
        s.without(1, "The constructor and the methods follow, a promise each: the signature, then what it does.");
    }

    private static RingPuzzle marked(String text, String marks) {
        return Puzzles.with(Puzzles.of(text), marks);
    }

    private static long drawn(RingPuzzle x) {
        long drawn = 0;
        for (int edge = 0; edge < x.count(2); edge++) {
            drawn |= x.edge(edge) == 1 ? 1L << edge : 0;
        }
        return drawn;
    }

    private static void isRing(Check check, String name, RingPuzzle x, long set) {
        Rings rings = new Rings(x.count(0), x.count(1));
        check.holds(name + " is one closed ring", rings.all.contains(set));
        for (int cell = 0; cell < rings.width * rings.height; cell++) {
            if (x.countOf(cell) != NONE) {
                check.due(name + ", around cell " + cell, rings.around(cell, set), x.countOf(cell));
            }
        }
    }

    private static void oneRing(Check check) {
        for (String text : SOLVABLE) {
            RingPuzzle x = Puzzles.of(text);
            long found = 0;
            for (int edge = 0; edge < x.count(2); edge++) {
                found |= x.solved(edge) == 1 ? 1L << edge : 0;
            }
            isRing(check, "the solution of " + text, x, found);
            x.deduceAll(7);
            check.due("misfit(4) of " + text, x.misfit(4), 1);
            isRing(check, "what is drawn in " + text, x, drawn(x));
        }
    }

    private static void keepsMarks(Check check) {
        RingPuzzle x = Puzzles.of("..../..../..../....");
        for (int edge = 0; edge < 40; edge++) {
            x.mark(edge, edge % 3);
        }
        for (int edge = 0; edge < 40; edge++) {
            check.due("edge(" + edge + ")", x.edge(edge), edge % 3);
        }
        check.due("open edges", x.count(3), 14);
        check.due("drawn edges", x.count(4), 13);
    }

    private static void oneAtATime(Check check) {
        for (String text : SOLVABLE) {
            RingPuzzle x = Puzzles.of(text);
            int most = x.count(3);
            for (int made = 1; made <= most && x.misfit(4) == 0; made++) {
                int rule = x.deduce();
                check.holds("deduction " + made + " of " + text + " has the name " + rule, rule >= 0 && rule <= 7);
                check.due("open edges behind deduction " + made + " of " + text, x.count(3), most - made);
            }
            check.holds("grade() of " + text, x.grade() >= 1 && x.grade() <= 4);
        }
    }

    private static void tellsAndCounts(Check check) {
        RingPuzzle x = marked("../.0", "d 0 3");
        check.due("the cell", x.misfit(0), 3);
        check.due("no corner", x.misfit(1), NONE);
        check.due("no solutions", x.solutions(20), 0);
        x.mark(3, 2);
        check.due("no cell", x.misfit(0), NONE);
        check.due("solutions with the first edge", x.solutions(20), 1);
        x.mark(6, 2);
        check.due("the corner", x.misfit(1), 0);
    }

    private static void readFromTexts(Check check) {
        RingPuzzle x = new RingPuzzle();
        Puzzles.typeAll(x, "3.1/.20");
        check.holds("the text alone is no puzzle", Puzzles.state(x).startsWith("3x3 ......... "));
        x.setPuzzle();
        check.holds("it is read", Puzzles.state(x).equals("3x2 3.1.20 " + ".".repeat(17) + " 0 0 0 0 0 0 0 0"));
        x.clearText();
        Puzzles.typeAll(x, "2");
        check.due("the next text alone is no puzzle", x.count(0), 3);
        x.setPuzzle();
        check.holds("the next one is read", Puzzles.state(x).equals("1x1 2 .... 0 0 0 0 0 0 0 0"));
    }

    private static void toldWithRuleAndPlace(Check check) {
        // Rule 1 allows edges around cell 0 from the beginning, and comes behind rule 0.
        RingPuzzle x = marked("3.0", "o 0");
        int[][] due = {{0, 2, 2}, {0, 5, 2}, {0, 8, 2}, {0, 9, 2}, {1, 3, 0}, {1, 6, 0}};
        for (int[] told : due) {
            check.due("hint(0)", x.hint(0), told[0]);
            check.due("hint(1)", x.hint(1), told[1]);
            check.due("hint(3)", x.hint(3), told[2]);
            check.due("deduce()", x.deduce(), told[0]);
        }
    }

    private static void isUndone(Check check, String name, Consumer<RingPuzzle> change) {
        RingPuzzle x = marked("33/..", "d 0");
        x.deduce();
        String before = Puzzles.state(x);
        int states = x.count(14);
        change.accept(x);
        check.holds(name + " changes something", !Puzzles.state(x).equals(before));
        check.due("undo() of " + name, x.undo(), states);
        check.holds(name + " is undone", Puzzles.state(x).equals(before));
    }

    private static void changesAreUndone(Check check) {
        isUndone(check, "setCount()", x -> x.setCount(3, 1));
        isUndone(check, "setCount() to none", x -> x.setCount(0, NONE));
        isUndone(check, "mark()", x -> x.mark(11, 2));
        isUndone(check, "mark() of a drawn edge", x -> x.mark(0, 0));
        isUndone(check, "wipe()", x -> x.wipe());
        isUndone(check, "deduce()", x -> x.deduce());
        isUndone(check, "deduceAll()", x -> x.deduceAll(7));
        isUndone(check, "setPuzzle()", x -> x.setPuzzle());
        isUndone(check, "setPuzzle() of another size", x -> {
            x.clearText();
            x.type('0');
            x.setPuzzle();
        });
    }

    private static void faultOfTheText(Check check) {
        RingPuzzle x = Puzzles.of("33");
        check.due("of the text that was read", x.fault(), NONE);
        x.setCount(0, NONE);
        check.due("the counts do not matter", x.fault(), NONE);
        x.type('/');
        check.due("of the text as it is now", x.fault(), 3);
        check.due("the puzzle stays", x.count(2), 7);
        x.type('3');
        x.type('/');
        check.due("at its end", x.fault(), 4);
        x.clearText();
        check.due("of the empty text", x.fault(), 0);
    }

    private static void setsOneCount(Check check) {
        RingPuzzle x = Puzzles.of("0123/..../3210/....");
        for (int cell = 0; cell < 16; cell++) {
            String before = Puzzles.counts(x);
            String marks = Puzzles.marks(x);
            x.setCount(cell, (cell + 1) % 4);
            String due = before.substring(0, cell) + (cell + 1) % 4 + before.substring(cell + 1);
            check.holds("the counts behind setCount(" + cell + ")", Puzzles.counts(x).equals(due));
            check.holds("the marks stay", Puzzles.marks(x).equals(marks));
            x = Puzzles.of("0123/..../3210/....");
        }
        check.holds("the deductions follow the count", Puzzles.of(".").hint(0) == NONE);
        RingPuzzle one = Puzzles.of(".");
        one.setCount(0, 0);
        check.due("hint(0) with the new count", one.hint(0), 0);
    }

    private static void makesTheNextOne(Check check) {
        for (String text : SOLVABLE) {
            RingPuzzle x = Puzzles.of(text);
            for (int times = 0; times < 5 && x.hint(0) >= 0; times++) {
                int rule = x.hint(0);
                int edge = x.hint(1);
                char becomes = ".do".charAt(x.hint(2));
                String before = Puzzles.marks(x);
                check.due("deduce() of " + text, x.deduce(), rule);
                String due = before.substring(0, edge) + becomes + before.substring(edge + 1);
                check.holds("the marks behind it", Puzzles.marks(x).equals(due));
            }
        }
    }

    private static void latestState(Check check) {
        RingPuzzle x = Puzzles.of("..");
        String[] states = new String[5];
        for (int change = 0; change < 5; change++) {
            states[change] = Puzzles.state(x);
            x.mark(change, 1 + change % 2);
        }
        for (int change = 4; change >= 0; change--) {
            check.due("undo()", x.undo(), change + 1);
            check.holds("the state before change " + change, Puzzles.state(x).equals(states[change]));
        }
    }

    private static void countOfEachCell(Check check) {
        RingPuzzle x = Puzzles.of("0123/3210/..../1.2.");
        String due = "01233210....1.2.";
        for (int cell = 0; cell < 16; cell++) {
            int count = due.charAt(cell) == '.' ? NONE : due.charAt(cell) - '0';
            check.due("countOf(" + cell + ")", x.countOf(cell), count);
        }
    }

    private static void markOfEachEdge(Check check) {
        RingPuzzle x = marked("../..", "d 0 5 6 11 o 1 4 7 10");
        String due = "do..oddo..od";
        for (int edge = 0; edge < 12; edge++) {
            check.due("edge(" + edge + ")", x.edge(edge), ".do".indexOf(due.charAt(edge)));
        }
    }

    private static void edgesOfPlaces(Check check) {
        RingPuzzle x = Puzzles.of("../..");
        int[][] cells = {{0, 2, 6, 7}, {1, 3, 7, 8}, {2, 4, 9, 10}, {3, 5, 10, 11}};
        int[][] corners = {{0, 6}, {0, 1, 7}, {1, 8}, {2, 6, 9}, {2, 3, 7, 10}, {3, 8, 11}, {4, 9}, {4, 5, 10}, {5, 11}};
        for (int cell = 0; cell < cells.length; cell++) {
            for (int i = 0; i <= 4; i++) {
                check.due("edgeAt(false, " + cell + ", " + i + ")", x.edgeAt(false, cell, i), i < 4 ? cells[cell][i] : NONE);
            }
        }
        for (int corner = 0; corner < corners.length; corner++) {
            for (int i = 0; i <= 4; i++) {
                int due = i < corners[corner].length ? corners[corner][i] : NONE;
                check.due("edgeAt(true, " + corner + ", " + i + ")", x.edgeAt(true, corner, i), due);
            }
        }
    }

    private static void misfits(Check check, String name, RingPuzzle x, int... due) {
        for (int what = 0; what < due.length; what++) {
            check.due(name + ": misfit(" + what + ")", x.misfit(what), due[what]);
        }
    }

    private static void whatDoesNotFit(Check check) {
        misfits(check, "nothing", Puzzles.of("33/.."), NONE, NONE, NONE, 1, 0);
        misfits(check, "a cell", marked("00/..", "d 1"), 1, NONE, NONE, 0, 0);
        misfits(check, "a corner", marked("../..", "d 1 o 0 7"), NONE, 1, NONE, 0, 0);
        misfits(check, "a ring beside an edge", marked(".../.../...", "d 0 3 12 13 8"), NONE, NONE, 0, 0, 0);
        misfits(check, "all of these", marked("0../.../...", "d 0 3 12 13 15 o 2"), 0, 3, 0, 0, 0);
        misfits(check, "a ring beside a count", marked("2./..", "d 1 3 7 8"), NONE, NONE, 1, 0, 0);
        misfits(check, "a solved grid", marked("../..", "d 1 3 7 8"), NONE, NONE, NONE, 1, 1);
    }

    private static void allNumbers(Check check) {
        RingPuzzle x = Puzzles.of("..0/2.1");
        x.deduceAll(7);
        x.mark(0, 0);
        int[] due = {3, 2, 17, 1, 7, 3, 5, 1, 0, 3, 7, 1, 0, 0, 3, 7};
        for (int what = 0; what < due.length; what++) {
            check.due("count(" + what + ")", x.count(what), due[what]);
        }
    }

    private static void sameDigest(Check check) {
        for (String text : SOLVABLE) {
            RingPuzzle x = Puzzles.of(text);
            long digest = x.digest();
            check.due("digest() again", x.digest(), digest);
            check.due("digest() of another object", Puzzles.of(text).digest(), digest);
            x.deduce();
            check.holds("digest() behind a deduction", x.digest() != digest);
        }
    }

    /** The numbers of the document, asked one by one. */
    private static void returnsH(Check check) {
        for (RingPuzzle x : List.of(new RingPuzzle(), Puzzles.of("33/.."), marked("0", "d 0"), marked("..", "d 0 2 4 5"))) {
            long h = 157;
            for (int what = 0; what <= 15; what++) {
                h = 31 * h + x.count(what);
            }
            for (int cell = 0; cell < x.count(0) * x.count(1); cell++) {
                h = 31 * h + x.countOf(cell);
            }
            for (int edge = 0; edge < x.count(2); edge++) {
                h = 31 * h + x.edge(edge);
            }
            for (int what = 0; what <= 4; what++) {
                h = 31 * h + x.misfit(what);
            }
            for (int what = 0; what <= 3; what++) {
                h = 31 * h + x.hint(what);
            }
            h = 31 * (31 * (31 * h + x.solutions(2)) + x.nodes(2)) + x.grade();
            // The digits, points and strokes of the text that was typed.
            String text = x.count(15) == 5 ? "33/.." : x.count(15) == 2 ? ".." : x.count(15) == 1 ? "0" : "";
            for (char letter : text.toCharArray()) {
                h = 31 * h + letter;
            }
            check.due("digest() of \"" + text + "\"", x.digest(), h);
        }
    }
}
