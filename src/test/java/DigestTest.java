/** Promise 23 (digest); also that what is told changes nothing. */
public final class DigestTest {
    private static final Check check = new Check("DigestTest");
    private static final int STEPS = 10;

    /** The digest from the other answers, with the text that was typed. */
    private static long digestOf(RingPuzzle x, String text) {
        long h = 157;
        for (int what = 0; what <= 15; what++) {
            h = 31 * h + x.count(what);
        }
        int cells = x.count(0) * x.count(1);
        for (int cell = 0; cell < cells; cell++) {
            h = 31 * h + x.countOf(cell);
        }
        int edges = x.count(2);
        for (int edge = 0; edge < edges; edge++) {
            h = 31 * h + x.edge(edge);
        }
        for (int what = 0; what <= 4; what++) {
            h = 31 * h + x.misfit(what);
        }
        for (int what = 0; what <= 3; what++) {
            h = 31 * h + x.hint(what);
        }
        h = 31 * h + x.solutions(2);
        h = 31 * h + x.nodes(2);
        h = 31 * h + x.grade();
        for (char letter : text.toCharArray()) {
            h = 31 * h + letter;
        }
        return h;
    }

    private static void digest(String name, RingPuzzle x, String text) {
        long due = digestOf(x, text);
        check.due(name + ": digest()", x.digest(), due);
        check.due(name + ": digest() again", x.digest(), due);
    }

    /** The puzzle of a text behind some changes, the last of which are undone. */
    private static RingPuzzle stepped(String text, int steps) {
        RingPuzzle x = Puzzles.of(text);
        for (int step = 1; step <= steps; step++) {
            switch (step) {
                case 1: x.mark(1, 1); break;
                case 2: x.mark(2, 2); break;
                case 3: x.deduce(); break;
                case 4: x.deduceAll(7); break;
                case 5: x.wipe(); break;
                case 6: x.deduceAll(7); break;
                case 7: x.mark(0, 1); break;
                case 8: x.setCount(0, 0); break;
                default: x.undo(); break;
            }
        }
        return x;
    }

    private static void askAll(RingPuzzle x) {
        for (int i = -1; i <= 16; i++) {
            x.count(i);
            x.misfit(i);
            x.hint(i);
            x.countOf(i);
            x.edge(i);
            x.edgeAt(true, i, 1);
            x.edgeAt(false, i, 1);
            x.way(i, 0);
            x.way(i, 2);
        }
        x.fault();
        x.solutions(20);
        x.nodes(20);
        x.solved(0);
        x.grade();
    }

    public static void main(String[] args) {
        RingPuzzle x = new RingPuzzle();
        digest("at first", x, "");
        x.type(0);
        x.type(127);
        digest("with a text", x, "\u0000\u007f");
        String[] texts = {"33", "3", "0", "..0/2.1", "231/320/100", "23.3/.1../2..2/3.23", " 3. / .3 ", "..../..../..../...."};
        for (String text : texts) {
            for (int steps = 0; steps <= STEPS; steps++) {
                digest(text + " behind " + steps + " steps", stepped(text, steps), text);
            }
            x = stepped(text, STEPS);
            x.clearText();
            digest(text + " without its text", x, "");
            x = stepped(text, 3);
            long before = x.digest();
            askAll(x);
            check.due(text + ": digest() behind questions", x.digest(), before);
        }
        // By hand: one cell of which all is ruled out. No ring, no deduction, one node, no grade.
        x = Puzzles.of("0");
        check.due("deduceAll(7)", x.deduceAll(7), 4);
        int[] numbers = {1, 1, 4, 0, 0, 1, 4, 0, 0, 0, 0, 0, 0, 0, 2, 1, 0, 2, 2, 2, 2, -1, -1, -1, 1, 0,
            -1, -1, -1, -1, 0, 1, -1, '0'};
        long h = 157;
        for (int number : numbers) {
            h = 31 * h + number;
        }
        check.due("digest() of one cell", x.digest(), h);
        x.mark(0, 1);
        numbers[4] = 1;
        numbers[14] = 3;
        numbers[17] = 1;
        numbers[21] = 0;
        numbers[22] = 0;
        numbers[24] = 0;
        for (int i = 26; i < 30; i++) {
            numbers[i] = RingPuzzle.STATE;
        }
        h = 157;
        for (int number : numbers) {
            h = 31 * h + number;
        }
        check.due("digest() of one cell that does not fit", x.digest(), h);
        check.end();
    }
}
