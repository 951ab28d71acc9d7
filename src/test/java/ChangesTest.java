/** Promises 6 (setCount), 7 (mark), 8 (wipe) and 11 (undo), and the history. */
public final class ChangesTest {
    private static final int BAD = RingPuzzle.BAD, STATE = RingPuzzle.STATE, NONE = RingPuzzle.NONE;
    private static final Check check = new Check("ChangesTest");

    private static void setCount() {
        RingPuzzle x = Puzzles.of("12/.3");
        int[][] wrong = {{-1, 0}, {4, 0}, {0, 4}, {0, -2}, {Integer.MIN_VALUE, 1}, {Integer.MAX_VALUE, 1},
            {0, Integer.MAX_VALUE}, {0, Integer.MIN_VALUE}, {9, 9}};
        for (int[] two : wrong) {
            check.due("setCount(" + two[0] + ", " + two[1] + ")", x.setCount(two[0], two[1]), BAD);
        }
        check.due("count(14) behind errors", x.count(14), 1);
        check.due("setCount(0, 3)", x.setCount(0, 3), 1);
        check.due("setCount(0, NONE)", x.setCount(0, NONE), 3);
        check.due("setCount(2, 0)", x.setCount(2, 0), NONE);
        check.due("setCount(3, 3), as it is", x.setCount(3, 3), 3);
        check.due("count(14)", x.count(14), 5);
        check.due("count(5)", x.count(5), 3);
        check.holds("counts", Puzzles.counts(x).equals(".203"));
    }

    /** A count matters at once for what does not fit, and for the next deduction. */
    private static void setCountMatters() {
        RingPuzzle x = Puzzles.with(new RingPuzzle(), "d 0 3");
        check.due("hint(0)", x.hint(0), 4);
        x.setCount(0, 2);
        check.due("hint(0) with a count of 2", x.hint(0), 0);
        check.due("deduce()", x.deduce(), 0);
        x.setCount(0, 1);
        check.due("misfit(0)", x.misfit(0), 0);
        check.due("count(6), what was counted stays", x.count(6), 1);
        x.setCount(0, NONE);
        check.due("misfit(0)", x.misfit(0), NONE);
        check.due("count(6), what was counted stays", x.count(6), 1);
    }

    private static void mark() {
        RingPuzzle x = Puzzles.of("./.");
        int[][] wrong = {{-1, 0}, {7, 0}, {0, -1}, {0, 3}, {Integer.MIN_VALUE, 0}, {Integer.MAX_VALUE, 0},
            {64, 1}, {0, Integer.MAX_VALUE}};
        for (int[] two : wrong) {
            check.due("mark(" + two[0] + ", " + two[1] + ")", x.mark(two[0], two[1]), BAD);
        }
        check.due("count(14) behind errors", x.count(14), 1);
        int before = 0;
        for (int mark : new int[] {1, 2, 1, 0, 2, 0, 0, 1, 1, 2, 2, 0}) {
            check.due("mark(6, " + mark + ")", x.mark(6, mark), before);
            check.due("edge(6)", x.edge(6), mark);
            check.due("count(3)", x.count(3), mark == 0 ? 7 : 6);
            check.due("count(4)", x.count(4), mark == 1 ? 1 : 0);
            before = mark;
        }
        check.due("count(14)", x.count(14), 8);
        x.mark(0, 1);
        check.due("deduce()", x.deduce(), 4);
        x.mark(0, 0);
        check.due("count(10), what was counted stays", x.count(10), 1);
    }

    private static void wipe() {
        RingPuzzle x = Puzzles.of("0.");
        check.due("wipe() of nothing", x.wipe(), 0);
        check.due("count(14), a change all the same", x.count(14), 2);
        Puzzles.with(x, "d 1 o 3");
        check.due("deduceAll(0)", x.deduceAll(0), 4);
        check.due("count(6)", x.count(6), 4);
        check.due("wipe()", x.wipe(), 6);
        check.holds("state", Puzzles.state(x).equals("2x1 0. ....... 0 0 0 0 0 0 0 0"));
        check.due("misfit(3)", x.misfit(3), 1);
        check.due("undo()", x.undo(), 5);
        check.due("count(6) behind undo()", x.count(6), 4);
        check.holds("marks behind undo()", Puzzles.marks(x).equals("odoooo."));
    }

    private static void undoAll() {
        RingPuzzle x = new RingPuzzle();
        check.due("undo() at first", x.undo(), STATE);
        check.due("undo() again", x.undo(), STATE);
        for (int i = 0; i < 12; i++) {
            change(x, i);
            check.due("count(14)", x.count(14), Math.min(8, i + 1));
        }
        x.type('!');
        for (int i = 11; i >= 4; i--) {
            check.due("undo() to " + i, x.undo(), i - 4);
            String state = Puzzles.state(x);
            check.holds("state " + i + ": " + state, state.equals(Puzzles.state(changed(i))));
            check.due("count(14)", x.count(14), i - 4);
        }
        long digest = x.digest();
        check.due("undo() of no state", x.undo(), STATE);
        check.due("digest() behind it", x.digest(), digest);
        check.due("count(15), the text is no part of a state", x.count(15), 10);
    }

    private static RingPuzzle changed(int times) {
        RingPuzzle x = new RingPuzzle();
        for (int i = 0; i < times; i++) {
            change(x, i);
        }
        return x;
    }

    private static void change(RingPuzzle x, int i) {
        switch (i) {
            case 0: x.mark(3, 1); break;
            case 1: x.setCount(4, 3); break;
            case 2: Puzzles.typeAll(x, "33/.0"); x.setPuzzle(); break;
            case 3: x.deduce(); break;
            case 4: x.deduce(); break;
            case 5: x.deduceAll(7); break;
            case 6: x.mark(2, 1); break;
            case 7: x.wipe(); break;
            case 8: x.clearText(); Puzzles.typeAll(x, ".3.2/1..0"); x.setPuzzle(); break;
            case 9: x.deduce(); break;
            case 10: x.setCount(0, 1); break;
            default: x.deduceAll(2); break;
        }
    }

    /** Changes and undo by turns: what was undone is gone, the older states stay. */
    private static void undoByTurns() {
        RingPuzzle x = new RingPuzzle();
        for (int edge = 0; edge < 10; edge++) {
            x.mark(edge, 1);
        }
        check.due("undo()", x.undo(), 7);
        check.due("undo()", x.undo(), 6);
        x.mark(20, 2);
        x.mark(21, 2);
        check.due("count(14)", x.count(14), 8);
        x.mark(22, 2);
        check.due("count(14)", x.count(14), 8);
        check.holds("marks", Puzzles.marks(x).equals("dddddddd............ooo."));
        for (int left = 7; left >= 0; left--) {
            check.due("undo()", x.undo(), left);
        }
        check.holds("marks of the oldest", Puzzles.marks(x).equals("ddd....................."));
        check.due("undo()", x.undo(), STATE);
    }

    private static void errorsAreNoChanges() {
        RingPuzzle x = Puzzles.with(Puzzles.of("0"), "d 0");
        int states = x.count(14);
        check.due("deduce()", x.deduce(), STATE);
        check.due("deduceAll(7)", x.deduceAll(7), STATE);
        check.due("deduceAll(8)", x.deduceAll(8), BAD);
        check.due("mark(4, 0)", x.mark(4, 0), BAD);
        check.due("setCount(1, 0)", x.setCount(1, 0), BAD);
        x.type('x');
        check.due("setPuzzle()", x.setPuzzle(), STATE);
        check.due("count(14)", x.count(14), states);
    }

    public static void main(String[] args) {
        setCount();
        setCountMatters();
        mark();
        wipe();
        undoAll();
        undoByTurns();
        errorsAreNoChanges();
        check.end();
    }
}
