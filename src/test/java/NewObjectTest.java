/** Promise 1: a new object. */
public final class NewObjectTest {
    public static void main(String[] args) {
        Check check = new Check("NewObjectTest");
        RingPuzzle x = new RingPuzzle();
        int[] numbers = {3, 3, 24, 24, 0, 0, 0, 0, 0, 0, 0, 0, 0, 0, 0, 0};
        for (int what = 0; what < numbers.length; what++) {
            check.due("count(" + what + ")", x.count(what), numbers[what]);
        }
        for (int cell = 0; cell < 9; cell++) {
            check.due("countOf(" + cell + ")", x.countOf(cell), RingPuzzle.NONE);
        }
        for (int edge = 0; edge < 24; edge++) {
            check.due("edge(" + edge + ")", x.edge(edge), 0);
        }
        check.due("countOf(9)", x.countOf(9), RingPuzzle.BAD);
        check.due("edge(24)", x.edge(24), RingPuzzle.BAD);
        check.due("fault()", x.fault(), 0);
        check.due("clearText()", x.clearText(), 0);
        check.due("undo()", x.undo(), RingPuzzle.STATE);
        RingPuzzle other = new RingPuzzle();
        x.mark(3, 1);
        x.setCount(4, 2);
        x.type('3');
        check.due("edge(3) of another object", other.edge(3), 0);
        check.due("countOf(4) of another object", other.countOf(4), RingPuzzle.NONE);
        check.due("count(15) of another object", other.count(15), 0);
        check.end();
    }
}
