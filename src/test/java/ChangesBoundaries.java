import java.util.function.Supplier;

/** Sentences about changes, the history, errors, and how long an object is used: promises 6, 7, 8 and 11. */
final class ChangesBoundaries {
    private static final int BAD = RingPuzzle.BAD, STATE = RingPuzzle.STATE, FULL = RingPuzzle.FULL, NONE = RingPuzzle.NONE;
    private static final int LEAST = Integer.MIN_VALUE, GREATEST = Integer.MAX_VALUE;
    private static final String NO_DEDUCTIONS = "0 0 0 0 0 0 0 0";

    private ChangesBoundaries() {
    }

    static void tell(Sentences s) {
        tellAbout(s);
        tellHistory(s);
        tellErrors(s);
        tellChanges(s);
    }

    private static void tellAbout(Sentences s) {
        s.test("1, 23", "An object is used for at most 512 calls after it has been made; what later calls answer is free.",
                ChangesBoundaries::manyCalls);
        s.test("2, 5", "- BAD = -2, STATE = -3, FULL = -4: Error codes.", ChangesBoundaries::errorCodes);
        s.test("12", "- NONE = -1: There is no such thing.", ChangesBoundaries::noSuchThing);
    }

    private static void tellHistory(Sentences s) {
        s.test("5, 6, 7, 8, 9, 10", "Changes are the calls of the methods in the section \"changes\" that return no error, also if nothing "
                + "becomes different.", ChangesBoundaries::whatIsAChange);
        s.test("11", "A history of at most 8 states is kept: each change records the state before it,", ChangesBoundaries::eightStates);
        s.test("11", "and when one more is recorded, the oldest one is dropped.", ChangesBoundaries::oldestIsDropped);
        s.test("11", "undo() removes the latest one and restores it.", ChangesBoundaries::latestIsRestored);
        s.test("2, 3, 11", "The text does not belong to a state.", ChangesBoundaries::textIsNoState);
        s.test("11", "Returns how many states are left in the history; STATE if there is none.", ChangesBoundaries::undoAnswers);
    }

    private static void tellErrors(Sentences s) {
        s.test("2, 6, 7, 10, 12, 13, 14, 15, 16, 17, 18, 19, 20, 22",
                "BAD: an argument is out of range, or names something that does not exist.", ChangesBoundaries::bad);
        s.test("5, 9, 10, 11, 16", "STATE: the call is not possible now, as the method says.", ChangesBoundaries::state);
        s.test("2, 11", "FULL: a limit would be exceeded.", ChangesBoundaries::full);
        s.test("2, 10, 16", "If several errors apply, the one that comes first in this list is returned.", ChangesBoundaries::severalErrors);
        s.test("9, 14, 16, 17, 20", "NONE is no error; it means that there is no such thing, and is returned only if no error applies.",
                ChangesBoundaries::noneIsNoError);
        s.test("2, 5, 6, 7, 9, 10, 11, 12, 13, 14, 15, 16, 17, 18, 19, 20, 22", "A call that returns an error changes nothing.",
                ChangesBoundaries::errorsChangeNothing);
    }

    private static void tellChanges(Sentences s) {
        s.test("6", "What was counted of deductions stays, here and with mark().", ChangesBoundaries::countedStays);
        s.test("6", "- cell: the cell", ChangesBoundaries::setCountCells);
        s.test("6", "- count: 0 to 3, or NONE for no count", ChangesBoundaries::setCountCounts);
        s.test("6", "Returns the count before, or NONE; BAD.", ChangesBoundaries::setCountAnswers);
        s.test("7", "Marks an edge, whatever it was before.", ChangesBoundaries::markAnew);
        s.test("7", "- edge: the edge", ChangesBoundaries::markEdges);
        s.test("7", "- mark: 0 open, 1 drawn, 2 ruled out", ChangesBoundaries::markMarks);
        s.test("7", "Returns what it was before; BAD.", ChangesBoundaries::markAnswers);
        s.test("8", "Makes all edges open;", ChangesBoundaries::wipeOpens);
        s.test("8", "what was counted of deductions begins with 0.", ChangesBoundaries::wipeCounts);
        s.test("8", "Returns the number of edges that were not open.", ChangesBoundaries::wipeAnswers);
    }

    private static RingPuzzle marked(String text, String marks) {
        return Puzzles.with(Puzzles.of(text), marks);
    }

    private static RingPuzzle greatest() {
        return Puzzles.of("..../..../..../....");
    }

    private static void errorCodes(Check check) {
        check.due("BAD", RingPuzzle.BAD, -2);
        check.due("STATE", RingPuzzle.STATE, -3);
        check.due("FULL", RingPuzzle.FULL, -4);
        RingPuzzle x = new RingPuzzle();
        check.due("a byte that is none", x.type(128), -2);
        check.due("the puzzle of the empty text", x.setPuzzle(), -3);
        Puzzles.typeAll(x, " ".repeat(40));
        check.due("a byte beyond the limit", x.type(' '), -4);
    }

    private static void noSuchThing(Check check) {
        check.due("NONE", RingPuzzle.NONE, -1);
        check.due("no count", new RingPuzzle().countOf(0), -1);
    }

    private static void manyCalls(Check check) {
        RingPuzzle x = new RingPuzzle();
        for (int call = 1; call <= 511; call++) {
            int before = call == 1 ? 0 : 1 + (call - 1) % 2;
            check.due("call " + call + ", mark(23, " + (1 + call % 2) + ")", x.mark(23, 1 + call % 2), before);
        }
        check.due("call 512, edge(23)", x.edge(23), 2);
        x = Puzzles.of("22/22");
        for (int call = 7; call <= 511; call++) {
            x.wipe();
        }
        RingPuzzle fresh = Puzzles.of("22/22");
        for (int i = 0; i < 8; i++) {
            fresh.wipe();
        }
        check.due("call 512, digest()", x.digest(), fresh.digest());
        laterCallsEnd(x);
    }

    /** Later calls may answer anything, but they answer. */
    private static void laterCallsEnd(RingPuzzle x) {
        for (int i = 0; i < 600; i++) {
            x.type('.');
            x.fault();
            x.setPuzzle();
            x.setCount(i % 16, i % 4);
            x.mark(i % 40, i % 3);
            x.deduce();
            x.deduceAll(7);
            x.undo();
            x.hint(1);
            x.way(i % 40, 1);
            x.solved(0);
            x.digest();
            x.wipe();
            x.clearText();
        }
    }

    private static void isChange(Check check, String name, RingPuzzle x, int answer, int due, int states) {
        check.due(name, answer, due);
        check.due("count(14) behind " + name, x.count(14), states);
    }

    private static void whatIsAChange(Check check) {
        RingPuzzle x = new RingPuzzle();
        isChange(check, "wipe() of nothing", x, x.wipe(), 0, 1);
        isChange(check, "setCount() to the same", x, x.setCount(0, NONE), NONE, 2);
        isChange(check, "mark() as it is", x, x.mark(0, 0), 0, 3);
        isChange(check, "deduce() without a deduction", x, x.deduce(), NONE, 4);
        isChange(check, "deduceAll() without a deduction", x, x.deduceAll(7), 0, 5);
        isChange(check, "type()", x, x.type('.'), 1, 5);
        isChange(check, "setPuzzle()", x, x.setPuzzle(), 4, 6);
        isChange(check, "setPuzzle() of the same", x, x.setPuzzle(), 4, 7);
        isChange(check, "fault()", x, x.fault(), NONE, 7);
        isChange(check, "clearText()", x, x.clearText(), 1, 7);
        isChange(check, "setPuzzle() that is refused", x, x.setPuzzle(), STATE, 7);
        isChange(check, "setCount() that is refused", x, x.setCount(1, 0), BAD, 7);
        isChange(check, "mark() that is refused", x, x.mark(0, 3), BAD, 7);
        isChange(check, "deduceAll() that is refused", x, x.deduceAll(8), BAD, 7);
        isChange(check, "hint()", x, x.hint(0), NONE, 7);
        isChange(check, "solutions()", x, x.solutions(20), 1, 7);
        isChange(check, "grade()", x, x.grade(), NONE, 7);
        isChange(check, "undo(), no change but one state less", x, x.undo(), 6, 6);
        x = marked("0", "d 0");
        isChange(check, "deduce() that is refused", x, x.deduce(), STATE, 2);
        isChange(check, "deduceAll() that is refused", x, x.deduceAll(0), STATE, 2);
        x = marked(".", "d 0 1 2 3");
        isChange(check, "deduce() of a solved grid", x, x.deduce(), NONE, 6);
        isChange(check, "deduceAll() of a solved grid", x, x.deduceAll(0), 0, 7);
    }

    private static void eightStates(Check check) {
        for (int changes = 0; changes <= 20; changes++) {
            RingPuzzle x = new RingPuzzle();
            for (int change = 0; change < changes; change++) {
                x.mark(change, 1);
            }
            int states = Math.min(changes, 8);
            check.due("states behind " + changes + " changes", x.count(14), states);
            for (int left = states - 1; left >= 0; left--) {
                check.due("undo() behind " + changes + " changes", x.undo(), left);
            }
            check.due("no more undo() behind " + changes + " changes", x.undo(), STATE);
            check.due("drawn edges then", x.count(4), changes - states);
        }
    }

    private static void oldestIsDropped(Check check) {
        RingPuzzle x = Puzzles.of("3");
        for (int change = 0; change < 7; change++) {
            x.setCount(0, change % 3);
        }
        check.due("states", x.count(14), 8);
        for (int left = 7; left >= 1; left--) {
            check.due("undo()", x.undo(), left);
        }
        check.due("the second one, the cell's count", x.countOf(0), 3);
        check.due("the oldest one", x.undo(), 0);
        check.due("the oldest one, the width", x.count(0), 3);
        x = Puzzles.of("3");
        for (int change = 0; change < 8; change++) {
            x.setCount(0, change % 3);
        }
        check.due("states with one more", x.count(14), 8);
        for (int left = 7; left >= 0; left--) {
            check.due("undo()", x.undo(), left);
        }
        check.due("the oldest one is dropped, the width", x.count(0), 1);
        check.due("the next one is the last, the cell's count", x.countOf(0), 3);
        check.due("undo() of none", x.undo(), STATE);
    }

    private static void latestIsRestored(Check check) {
        RingPuzzle x = Puzzles.of("33");
        String first = Puzzles.state(x);
        x.deduceAll(7);
        String second = Puzzles.state(x);
        x.clearText();
        Puzzles.typeAll(x, "0123/3210/0123/3210");
        x.setPuzzle();
        check.due("undo() of another size", x.undo(), 2);
        check.holds("the size, the counts, the marks and what was counted", Puzzles.state(x).equals(second));
        check.due("undo() of deductions", x.undo(), 1);
        check.holds("the marks and what was counted", Puzzles.state(x).equals(first));
        x.wipe();
        x.undo();
        check.due("undo() behind a change and its undo()", x.undo(), 0);
        check.due("the first size", x.count(2), 24);
        // The rows of the history begin again: nothing of a later state is left.
        for (int turn = 0; turn < 20; turn++) {
            x.mark(turn, 1);
            x.mark(turn, 2);
            check.due("undo() of the latest", x.undo(), 1);
            check.due("edge(" + turn + ")", x.edge(turn), 1);
            check.due("undo() of the one before", x.undo(), 0);
            check.due("edge(" + turn + ")", x.edge(turn), 0);
        }
    }

    private static void textIsNoState(Check check) {
        RingPuzzle x = Puzzles.of("3");
        x.type('/');
        x.undo();
        check.due("undo() leaves a letter", x.count(15), 2);
        check.due("undo() leaves the fault", x.fault(), 2);
        x.wipe();
        x.clearText();
        x.undo();
        check.due("undo() leaves the empty text", x.count(15), 0);
        for (int i = 0; i < 40; i++) {
            x.type(' ');
        }
        x.undo();
        check.due("undo() of none leaves a full text", x.count(15), 40);
        check.due("it is still full", x.type('1'), FULL);
    }

    private static void undoAnswers(Check check) {
        RingPuzzle x = new RingPuzzle();
        check.due("undo() at first", x.undo(), STATE);
        x.wipe();
        check.due("undo() of one", x.undo(), 0);
        check.due("undo() behind it", x.undo(), STATE);
        for (int change = 0; change < 9; change++) {
            x.wipe();
        }
        for (int left = 7; left >= 0; left--) {
            check.due("undo() of a full history", x.undo(), left);
        }
        check.due("undo() behind them", x.undo(), STATE);
        Twins.refused(check, RingPuzzle::new, "undo() at first", y -> y.undo(), STATE);
    }

    private static void bad(Check check) {
        for (String text : new String[] {"1", "..../..../..../...."}) {
            RingPuzzle x = Puzzles.of(text);
            int cells = x.count(0) * x.count(1);
            int edges = x.count(2);
            int corners = (x.count(0) + 1) * (x.count(1) + 1);
            for (int far : new int[] {LEAST, -1, GREATEST}) {
                check.due("type(" + far + ")", x.type(far), BAD);
                check.due("setCount(" + far + ", 0)", x.setCount(far, 0), BAD);
                check.due("mark(" + far + ", 0)", x.mark(far, 0), BAD);
                check.due("deduceAll(" + far + ")", x.deduceAll(far), BAD);
                check.due("countOf(" + far + ")", x.countOf(far), BAD);
                check.due("edge(" + far + ")", x.edge(far), BAD);
                check.due("edgeAt(true, " + far + ", 0)", x.edgeAt(true, far, 0), BAD);
                check.due("edgeAt(false, " + far + ", 0)", x.edgeAt(false, far, 0), BAD);
                check.due("misfit(" + far + ")", x.misfit(far), BAD);
                check.due("hint(" + far + ")", x.hint(far), BAD);
                check.due("way(" + far + ", 0)", x.way(far, 0), BAD);
                check.due("way(0, " + far + ")", x.way(0, far), BAD);
                check.due("solutions(" + far + ")", x.solutions(far), BAD);
                check.due("nodes(" + far + ")", x.nodes(far), BAD);
                check.due("solved(" + far + ")", x.solved(far), BAD);
                check.due("count(" + far + ")", x.count(far), BAD);
            }
            check.due("type(128)", x.type(128), BAD);
            check.due("setCount() of no cell", x.setCount(cells, 0), BAD);
            check.due("setCount(0, 4)", x.setCount(0, 4), BAD);
            check.due("setCount(0, -2)", x.setCount(0, -2), BAD);
            check.due("mark() of no edge", x.mark(edges, 0), BAD);
            check.due("mark(0, 3)", x.mark(0, 3), BAD);
            check.due("mark(0, -1)", x.mark(0, -1), BAD);
            check.due("deduceAll(8)", x.deduceAll(8), BAD);
            check.due("countOf() of no cell", x.countOf(cells), BAD);
            check.due("edge() of no edge", x.edge(edges), BAD);
            check.due("edgeAt() of no corner", x.edgeAt(true, corners, 0), BAD);
            check.due("edgeAt() of no cell", x.edgeAt(false, cells, 0), BAD);
            check.due("misfit(5)", x.misfit(5), BAD);
            check.due("hint(4)", x.hint(4), BAD);
            check.due("way() of no edge", x.way(edges, 0), BAD);
            check.due("way(0, 3)", x.way(0, 3), BAD);
            check.due("solutions(0)", x.solutions(0), BAD);
            check.due("solutions(21)", x.solutions(21), BAD);
            check.due("nodes(0)", x.nodes(0), BAD);
            check.due("nodes(21)", x.nodes(21), BAD);
            check.due("solved() of no edge", x.solved(edges), BAD);
            check.due("count(16)", x.count(16), BAD);
        }
    }

    private static void state(Check check) {
        RingPuzzle x = new RingPuzzle();
        check.due("setPuzzle() of the empty text", x.setPuzzle(), STATE);
        check.due("undo() of the empty history", x.undo(), STATE);
        x = marked("0", "d 3");
        check.due("deduce() of a grid that does not fit", x.deduce(), STATE);
        check.due("deduceAll(0) of it", x.deduceAll(0), STATE);
        check.due("hint(0) of it", x.hint(0), STATE);
        check.due("misfit(3) is possible", x.misfit(3), 0);
        check.due("solutions(1) is possible", x.solutions(1), 0);
        check.due("nodes(1) is possible", x.nodes(1), 1);
        check.due("solved(3) is possible", x.solved(3), NONE);
        check.due("grade() is possible", x.grade(), NONE);
        check.due("mark(3, 0) is possible", x.mark(3, 0), 1);
        check.due("then deduce() is", x.deduce(), 0);
    }

    private static void full(Check check) {
        RingPuzzle x = new RingPuzzle();
        for (int letter = 0; letter < 40; letter++) {
            check.due("type() up to the limit", x.type(' '), letter + 1);
        }
        check.due("type() beyond it", x.type(' '), FULL);
        for (int change = 0; change < 20; change++) {
            check.due("a change beyond 8 states is no error", x.wipe(), 0);
        }
    }

    private static void severalErrors(Check check) {
        RingPuzzle x = new RingPuzzle();
        Puzzles.typeAll(x, " ".repeat(40));
        check.due("BAD ahead of FULL, type(-1)", x.type(-1), BAD);
        check.due("BAD ahead of FULL, type(128)", x.type(128), BAD);
        check.due("FULL alone", x.type(127), FULL);
        x = marked("0", "d 0");
        check.due("BAD ahead of STATE, deduceAll(8)", x.deduceAll(8), BAD);
        check.due("BAD ahead of STATE, deduceAll(-1)", x.deduceAll(-1), BAD);
        check.due("STATE alone", x.deduceAll(7), STATE);
        check.due("BAD ahead of STATE, hint(4)", x.hint(4), BAD);
        check.due("BAD ahead of STATE, hint(-1)", x.hint(-1), BAD);
        check.due("STATE alone", x.hint(3), STATE);
    }

    private static void noneIsNoError(Check check) {
        RingPuzzle x = new RingPuzzle();
        check.due("deduce() is a change", x.deduce(), NONE);
        check.due("setCount() is a change", x.setCount(0, 0), NONE);
        check.due("states", x.count(14), 2);
        check.due("undo() of setCount()", x.undo(), 1);
        check.due("countOf(0) behind it", x.countOf(0), NONE);
        check.due("edgeAt() with no such cell and not so many edges", x.edgeAt(false, 9, 9), BAD);
        check.due("way() of an open edge and no such number", x.way(0, 3), BAD);
        check.due("hint() of no deduction and no such number", x.hint(4), BAD);
        check.due("hint() of no deduction", x.hint(3), NONE);
        x = marked("0", "d 0");
        check.due("hint(3) of a grid that does not fit", x.hint(3), STATE);
        check.due("solved() of no solution", x.solved(3), NONE);
        check.due("solved() of no solution and no such edge", x.solved(4), BAD);
        check.due("fault() of no fault", x.fault(), NONE);
        check.due("grade() of no grade", x.grade(), NONE);
    }

    private static void errorsChangeNothing(Check check) {
        errorsChangeNothing(check, RingPuzzle::new);
        errorsChangeNothing(check, () -> marked("3./..", "d 0 2 o 11"));
        errorsChangeNothing(check, () -> withFullHistory());
        Supplier<RingPuzzle> misfit = () -> marked("0/3", "d 0");
        errorsChangeNothing(check, misfit);
        Twins.refused(check, misfit, "deduce()", y -> y.deduce(), STATE);
        Twins.refused(check, misfit, "deduceAll(7)", y -> y.deduceAll(7), STATE);
        Twins.refused(check, misfit, "hint(0)", y -> y.hint(0), STATE);
        Supplier<RingPuzzle> full = () -> withFullText();
        Twins.refused(check, full, "type('1')", y -> y.type('1'), FULL);
        Twins.refused(check, full, "setPuzzle()", y -> y.setPuzzle(), STATE);
        Twins.refused(check, RingPuzzle::new, "undo()", y -> y.undo(), STATE);
    }

    private static void errorsChangeNothing(Check check, Supplier<RingPuzzle> made) {
        Twins.refused(check, made, "type(128)", y -> y.type(128), BAD);
        Twins.refused(check, made, "setCount(0, 4)", y -> y.setCount(0, 4), BAD);
        Twins.refused(check, made, "setCount(16, 0)", y -> y.setCount(16, 0), BAD);
        Twins.refused(check, made, "mark(0, 3)", y -> y.mark(0, 3), BAD);
        Twins.refused(check, made, "mark(40, 1)", y -> y.mark(40, 1), BAD);
        Twins.refused(check, made, "deduceAll(8)", y -> y.deduceAll(8), BAD);
        Twins.refused(check, made, "countOf(16)", y -> y.countOf(16), BAD);
        Twins.refused(check, made, "edge(40)", y -> y.edge(40), BAD);
        Twins.refused(check, made, "edgeAt(true, 25, 0)", y -> y.edgeAt(true, 25, 0), BAD);
        Twins.refused(check, made, "misfit(5)", y -> y.misfit(5), BAD);
        Twins.refused(check, made, "hint(4)", y -> y.hint(4), BAD);
        Twins.refused(check, made, "way(0, 3)", y -> y.way(0, 3), BAD);
        Twins.refused(check, made, "solutions(21)", y -> y.solutions(21), BAD);
        Twins.refused(check, made, "nodes(0)", y -> y.nodes(0), BAD);
        Twins.refused(check, made, "solved(40)", y -> y.solved(40), BAD);
        Twins.refused(check, made, "count(16)", y -> y.count(16), BAD);
    }

    private static RingPuzzle withFullHistory() {
        RingPuzzle x = Puzzles.of("33");
        x.deduceAll(7);
        for (int change = 0; change < 9; change++) {
            x.mark(change % 7, change % 3);
        }
        return x;
    }

    private static RingPuzzle withFullText() {
        RingPuzzle x = withFullHistory();
        Puzzles.typeAll(x, "x" + " ".repeat(39));
        return x;
    }

    private static void countedStays(Check check) {
        RingPuzzle x = Puzzles.of("33");
        x.deduceAll(7);
        String made = Puzzles.made(x);
        check.holds("some are counted: " + made, !made.equals(NO_DEDUCTIONS));
        x.mark(0, 0);
        check.holds("behind mark() to open", Puzzles.made(x).equals(made));
        x.mark(0, 2);
        check.holds("behind mark() to ruled out", Puzzles.made(x).equals(made));
        x.setCount(0, NONE);
        check.holds("behind setCount() to none", Puzzles.made(x).equals(made));
        x.setCount(1, 0);
        check.holds("behind setCount() to 0", Puzzles.made(x).equals(made));
        x.wipe();
        check.holds("not behind wipe()", Puzzles.made(x).equals(NO_DEDUCTIONS));
    }

    private static void setCountCells(Check check) {
        for (String text : new String[] {".", "....", "./././.", "..../..../..../...."}) {
            RingPuzzle x = Puzzles.of(text);
            int cells = text.replace("/", "").length();
            x.setCount(0, 2);
            x.setCount(cells - 1, 1);
            check.due("the first cell of " + text, x.countOf(0), cells == 1 ? 1 : 2);
            check.due("the last cell of " + text, x.countOf(cells - 1), 1);
            check.due("cells with counts of " + text, x.count(5), cells == 1 ? 1 : 2);
            for (int cell : new int[] {-1, cells, cells + 1, 64, LEAST, GREATEST}) {
                check.due("setCount(" + cell + ", 0) of " + text, x.setCount(cell, 0), BAD);
            }
        }
    }

    private static void setCountCounts(Check check) {
        RingPuzzle x = Puzzles.of(".2");
        for (int count : new int[] {0, 3, NONE, 1, 2}) {
            x.setCount(0, count);
            check.due("countOf(0) behind setCount(0, " + count + ")", x.countOf(0), count);
            check.due("count(5)", x.count(5), count == NONE ? 1 : 2);
        }
        for (int count : new int[] {4, -2, 5, 256, LEAST, GREATEST}) {
            check.due("setCount(0, " + count + ")", x.setCount(0, count), BAD);
        }
        check.due("countOf(0) behind them", x.countOf(0), 2);
    }

    private static void setCountAnswers(Check check) {
        RingPuzzle x = Puzzles.of("03.");
        check.due("the least before", x.setCount(0, 3), 0);
        check.due("the greatest before", x.setCount(1, NONE), 3);
        check.due("none before", x.setCount(2, 0), NONE);
        check.due("none before, taken away", x.setCount(1, NONE), NONE);
        check.due("the same before", x.setCount(0, 3), 3);
        check.due("no such cell, no such count", x.setCount(3, 4), BAD);
    }

    private static void markAnew(Check check) {
        for (int before = 0; before <= 2; before++) {
            for (int mark = 0; mark <= 2; mark++) {
                RingPuzzle x = new RingPuzzle();
                x.mark(12, before);
                check.due("mark(12, " + mark + ") of " + before, x.mark(12, mark), before);
                check.due("edge(12) behind it", x.edge(12), mark);
                check.due("open edges", x.count(3), mark == 0 ? 24 : 23);
                check.due("drawn edges", x.count(4), mark == 1 ? 1 : 0);
            }
        }
        RingPuzzle x = marked("0", "d 0 1 2 3");
        check.due("where the grid does not fit", x.mark(0, 2), 1);
        x = Puzzles.of("0");
        x.deduceAll(0);
        check.due("what was deduced", x.mark(3, 1), 2);
        x = marked(".", "d 0 1 2 3");
        check.due("where the grid is solved", x.mark(0, 2), 1);
        check.due("misfit(4) behind it", x.misfit(4), 0);
    }

    private static void markEdges(Check check) {
        for (String text : new String[] {".", "....", "./././.", "..../..../..../...."}) {
            RingPuzzle x = Puzzles.of(text);
            int edges = x.count(2);
            check.due("the first edge", x.mark(0, 1), 0);
            check.due("the last edge", x.mark(edges - 1, 2), 0);
            check.due("edge(0)", x.edge(0), 1);
            check.due("edge(" + (edges - 1) + ")", x.edge(edges - 1), 2);
            check.due("open edges", x.count(3), edges - 2);
            for (int edge : new int[] {-1, edges, edges + 1, 64, -64, LEAST, GREATEST}) {
                check.due("mark(" + edge + ", 1) of " + edges, x.mark(edge, 1), BAD);
            }
        }
    }

    private static void markMarks(Check check) {
        RingPuzzle x = new RingPuzzle();
        check.due("open", x.mark(5, 0), 0);
        check.due("drawn", x.mark(5, 1), 0);
        check.due("ruled out", x.mark(5, 2), 1);
        for (int mark : new int[] {-1, 3, 256, LEAST, GREATEST}) {
            check.due("mark(5, " + mark + ")", x.mark(5, mark), BAD);
        }
        check.due("edge(5) behind them", x.edge(5), 2);
    }

    private static void markAnswers(Check check) {
        RingPuzzle x = greatest();
        int[] marks = {1, 2, 0, 2, 1, 0, 0, 1, 1, 2, 2};
        int before = 0;
        for (int mark : marks) {
            check.due("mark(39, " + mark + ")", x.mark(39, mark), before);
            before = mark;
        }
        check.due("no such edge, no such mark", x.mark(40, 3), BAD);
        check.due("no such edge, as it would be", x.mark(40, 0), BAD);
    }

    private static void wipeOpens(Check check) {
        RingPuzzle x = greatest();
        for (int edge = 0; edge < 40; edge++) {
            x.mark(edge, 1 + edge % 2);
        }
        x.wipe();
        check.due("open edges behind all marked ones", x.count(3), 40);
        check.due("drawn edges", x.count(4), 0);
        check.due("the last edge", x.edge(39), 0);
        check.due("misfit(3)", x.misfit(3), 1);
        x = marked("3", "d 0 1 2 3");
        x.wipe();
        check.due("misfit(3) behind a grid that did not fit", x.misfit(3), 1);
        check.due("the count stays", x.countOf(0), 3);
        x = marked(".", "d 0 1 2 3");
        x.wipe();
        check.due("misfit(4) behind a solved one", x.misfit(4), 0);
    }

    private static void wipeCounts(Check check) {
        RingPuzzle x = Puzzles.of("33");
        x.deduceAll(7);
        x.wipe();
        check.holds("none is counted: " + Puzzles.made(x), Puzzles.made(x).equals(NO_DEDUCTIONS));
        x.deduce();
        check.holds("one is counted: " + Puzzles.made(x), Puzzles.made(x).equals("0 0 0 0 0 0 0 1"));
        x.undo();
        x.undo();
        check.holds("all are counted behind undo(): " + Puzzles.made(x), Puzzles.made(x).equals("1 3 0 0 2 0 0 1"));
    }

    private static void wipeAnswers(Check check) {
        RingPuzzle x = greatest();
        check.due("none", x.wipe(), 0);
        x.mark(39, 1);
        check.due("one that is drawn", x.wipe(), 1);
        x.mark(39, 2);
        check.due("one that is ruled out", x.wipe(), 1);
        x.mark(39, 2);
        x.mark(39, 0);
        check.due("one that is open again", x.wipe(), 0);
        for (int edge = 0; edge < 40; edge++) {
            x.mark(edge, 1 + edge % 2);
        }
        check.due("all", x.wipe(), 40);
        check.due("none again", x.wipe(), 0);
    }
}
