/** Promises 9 (deduce), 10 (deduceAll) and 16 (hint), and the rules. */
public final class RulesTest {
    private static final int BAD = RingPuzzle.BAD, STATE = RingPuzzle.STATE, NONE = RingPuzzle.NONE;
    private static final Check check = new Check("RulesTest");
    private static final String EMPTY = ".../.../...";

    private static RingPuzzle marked(String text, String marks) {
        return Puzzles.with(Puzzles.of(text), marks);
    }

    /** The next deduction is told by hint() and made by deduce(), and undo() takes it back. */
    private static void next(String name, RingPuzzle x, int rule, int edge, int becomes, int place) {
        String before = Puzzles.state(x);
        int states = x.count(14);
        check.due(name + ": hint(0)", x.hint(0), rule);
        check.due(name + ": hint(1)", x.hint(1), edge);
        check.due(name + ": hint(2)", x.hint(2), becomes);
        check.due(name + ": hint(3)", x.hint(3), place);
        check.holds(name + ": hint() changes nothing", Puzzles.state(x).equals(before) && x.count(14) == states);
        int made = x.count(6 + rule);
        int open = x.count(3);
        check.due(name + ": deduce()", x.deduce(), rule);
        check.due(name + ": edge(" + edge + ")", x.edge(edge), becomes);
        check.due(name + ": count(3)", x.count(3), open - 1);
        check.due(name + ": count(" + (6 + rule) + ")", x.count(6 + rule), made + 1);
        check.due(name + ": count(14)", x.count(14), Math.min(8, states + 1));
        x.undo();
        check.holds(name + ": undo()", Puzzles.state(x).equals(before));
    }

    private static void none(String name, RingPuzzle x) {
        String before = Puzzles.state(x);
        for (int what = 0; what <= 3; what++) {
            check.due(name + ": hint(" + what + ")", x.hint(what), NONE);
        }
        int states = x.count(14);
        check.due(name + ": deduce()", x.deduce(), NONE);
        check.due(name + ": deduceAll(7)", x.deduceAll(7), 0);
        check.due(name + ": count(14), changes all the same", x.count(14), Math.min(8, states + 2));
        check.holds(name + ": state", Puzzles.state(x).equals(before));
    }

    private static void state(String name, RingPuzzle x) {
        long before = x.digest();
        for (int what = 0; what <= 3; what++) {
            check.due(name + ": hint(" + what + ")", x.hint(what), STATE);
        }
        check.due(name + ": hint(4)", x.hint(4), BAD);
        check.due(name + ": deduce()", x.deduce(), STATE);
        check.due(name + ": deduceAll(0)", x.deduceAll(0), STATE);
        check.due(name + ": deduceAll(8)", x.deduceAll(8), BAD);
        check.due(name + ": digest()", x.digest(), before);
    }

    private static void cellRules() {
        next("a count of 0", Puzzles.of("0"), 0, 0, 2, 0);
        next("a count of 1", marked("1", "d 2"), 0, 0, 2, 0);
        next("a count of 3", marked("3", "d 1 2 3"), 0, 0, 2, 0);
        next("the least cell", Puzzles.of("..0/0.."), 0, 2, 2, 2);
        next("the least open edge", marked("..0/0..", "o 2 5"), 0, 11, 2, 2);
        next("the last cell", Puzzles.of("..../..../..../...0"), 0, 15, 2, 15);
        next("rule 0 ahead of 1", marked("3./.0", "o 0"), 0, 3, 2, 3);
        next("as many open as 3", marked("3", "o 0"), 1, 1, 1, 0);
        next("as many open as 2", marked("2", "o 1 3"), 1, 0, 1, 0);
        next("as many drawn or open as 3", marked("3", "d 1 o 0"), 1, 2, 1, 0);
        next("rule 1 at a later cell", marked("../.3", "o 3"), 1, 5, 1, 3);
        next("rule 1 ahead of 2", marked("../.3", "d 0 1 o 3"), 1, 5, 1, 3);
        next("rule 1 at the least cell", marked("../33", "o 4 5"), 1, 2, 1, 2);
        next("no rule 0 with fewer drawn", marked("2", "d 0"), 4, 2, 1, 0);
    }

    private static void cornerRules() {
        next("two drawn", marked(EMPTY, "d 3 4"), 2, 13, 2, 5);
        next("two drawn, the least corner", marked(EMPTY, "d 10 11 3 4"), 2, 13, 2, 5);
        next("two drawn, the least open edge", marked(EMPTY, "d 3 13"), 2, 4, 2, 5);
        next("two drawn, the last corner that can", marked("../..", "d 4 5"), 2, 10, 2, 7);
        next("rule 2 ahead of 3 and 4", marked(EMPTY, "d 3 4 23 o 0"), 2, 13, 2, 5);
        next("one open, none drawn", marked(EMPTY, "o 0"), 3, 12, 2, 0);
        next("one open of three", marked("../..", "o 0 7"), 3, 6, 2, 0);
        next("one open of four", marked("../..", "o 2 3 7"), 3, 10, 2, 4);
        next("one open, a later corner", marked(EMPTY, "o 15"), 3, 2, 2, 3);
        next("one open, the least corner", marked(EMPTY, "o 15 23"), 3, 2, 2, 3);
        next("rule 3 ahead of 4", marked(EMPTY, "d 0 o 23"), 3, 11, 2, 15);
        next("one drawn, one open", marked(EMPTY, "d 0"), 4, 12, 1, 0);
        next("one drawn, the last corner", marked(EMPTY, "d 11"), 4, 23, 1, 15);
        next("one drawn, the least corner", marked(EMPTY, "d 11 2"), 4, 15, 1, 3);
        next("one drawn, one open of four", marked("../..", "d 2 o 3 7"), 4, 10, 1, 4);
    }

    private static void closingRule() {
        String almost = "d 4 17 18 o 3 13 5 14";
        RingPuzzle x = marked("1../.../...", almost);
        next("a ring that meets not all counts", x, 5, 7, 2, NONE);
        check.due("deduceAll(4) stays below rule 5", x.deduceAll(4), 0);
        check.holds("a ring that would fit is not ruled out", marked(EMPTY, almost).hint(0) != 5);
        String corner = "d 0 20 4 o 25";
        String wide = "..../..../..../....";
        next("a ring with an edge outside", marked(wide, corner + " d 10"), 5, 21, 2, NONE);
        check.holds("a ring without one", marked(wide, corner).hint(0) != 5);
    }

    private static void trialRules() {
        next("drawn, it does not fit behind some deductions", Puzzles.of("3"), 6, 0, 2, NONE);
        next("likewise, the least edge", Puzzles.of(".1"), 6, 1, 2, NONE);
        next("ruled out, it does not fit", Puzzles.of("33"), 7, 0, 1, NONE);
        next("likewise, the least edge", Puzzles.of(".3"), 7, 1, 1, NONE);
        next("likewise, in a column", Puzzles.of("./3"), 7, 2, 1, NONE);
        none("no deduction at all", new RingPuzzle());
        none("one cell without a count", Puzzles.of("."));
        none("solved", marked(EMPTY, "d 4 7 17 18"));
        none("all ruled out", marked("0", "o 0 1 2 3"));
        state("a cell that does not fit", marked("0", "d 0"));
        state("a corner that does not fit", marked("../..", "d 2 3 7"));
        state("a ring that does not fit", marked(EMPTY, "d 4 7 17 18 0"));
    }

    private static void hintErrors() {
        for (int what : new int[] {-1, 4, Integer.MIN_VALUE, Integer.MAX_VALUE}) {
            check.due("hint(" + what + ")", Puzzles.of("3").hint(what), BAD);
            check.due("hint(" + what + ")", new RingPuzzle().hint(what), BAD);
        }
    }

    private static void deduceToTheEnd() {
        RingPuzzle x = Puzzles.of("33");
        for (int rule : new int[] {7, 4, 4, 0, 1, 1, 1, NONE, NONE}) {
            check.due("deduce() of 33", x.deduce(), rule);
        }
        check.holds("state of 33", Puzzles.state(x).equals("2x1 33 dddddod 1 3 0 0 2 0 0 1"));
        check.due("misfit(4)", x.misfit(4), 1);
        x = Puzzles.of("3");
        for (int rule : new int[] {6, 1, 1, STATE, STATE}) {
            check.due("deduce() of 3", x.deduce(), rule);
        }
        check.holds("state of 3", Puzzles.state(x).equals("1x1 3 odd. 0 2 0 0 0 0 1 0"));
        check.due("count(14), not for errors", x.count(14), 4);
    }

    private static void deduceAll() {
        RingPuzzle x = Puzzles.of("33");
        for (int most : new int[] {-1, 8, Integer.MIN_VALUE, Integer.MAX_VALUE}) {
            check.due("deduceAll(" + most + ")", x.deduceAll(most), BAD);
        }
        for (int most = 0; most <= 6; most++) {
            check.due("deduceAll(" + most + ") of 33", x.deduceAll(most), 0);
        }
        check.due("count(14)", x.count(14), 8);
        check.due("deduceAll(7) of 33", x.deduceAll(7), 7);
        check.holds("state of 33", Puzzles.state(x).equals("2x1 33 dddddod 1 3 0 0 2 0 0 1"));
        check.due("deduceAll(7) again", x.deduceAll(7), 0);
        check.due("undo()", x.undo(), 7);
        check.due("undo()", x.undo(), 6);
        check.holds("state behind undo()", Puzzles.state(x).equals("2x1 33 ....... 0 0 0 0 0 0 0 0"));
        x.mark(0, 1);
        for (int most = 0; most <= 3; most++) {
            check.due("deduceAll(" + most + ") with an edge", x.deduceAll(most), 0);
        }
        check.due("deduceAll(4) with an edge", x.deduceAll(4), 6);
        check.due("misfit(4)", x.misfit(4), 1);
    }

    /** A greater rule ends it, also if a lesser one would be allowed behind that. */
    private static void deduceAllEnds() {
        RingPuzzle x = marked("../0.", "d 1");
        check.due("deduceAll(1)", x.deduceAll(1), 4);
        check.due("deduceAll(2)", x.deduceAll(2), 0);
        check.due("deduceAll(3)", x.deduceAll(3), 4);
        check.holds("marks", Puzzles.marks(x).equals("odo.ooo..ooo"));
        check.holds("what was counted", Puzzles.made(x).equals("4 0 0 4 0 0 0 0"));
        x = Puzzles.of("3");
        check.due("deduceAll(7) to a grid that does not fit", x.deduceAll(7), 3);
        check.due("misfit(1)", x.misfit(1), 0);
        check.due("deduceAll(7) of it", x.deduceAll(7), STATE);
    }

    public static void main(String[] args) {
        cellRules();
        cornerRules();
        closingRule();
        trialRules();
        hintErrors();
        deduceToTheEnd();
        deduceAll();
        deduceAllEnds();
        check.end();
    }
}
