/** The rules, the search and the digest: every puzzle of one to three cells in a row, or two times two. */
public final class SmallPuzzlesTest {
    private static final Check check = new Check("SmallPuzzlesTest");

    private static void puzzle(String text) {
        RingPuzzle x = new RingPuzzle();
        PlainRing plain = new PlainRing();
        for (char letter : text.toCharArray()) {
            x.type(letter);
            plain.type(letter);
        }
        check.due(text + ": setPuzzle()", x.setPuzzle(), plain.setPuzzle());
        check.due(text + ": nodes(20)", x.nodes(20), plain.nodes(20));
        check.due(text + ": solved(0)", x.solved(0), plain.solved(0));
        check.due(text + ": solutions(20)", x.solutions(20), plain.solutions(20));
        check.due(text + ": digest()", x.digest(), plain.digest());
        check.due(text + ": deduceAll(7)", x.deduceAll(7), plain.deduceAll(7));
        check.due(text + ": digest() behind it", x.digest(), plain.digest());
    }

    private static void allPuzzles(int width, int height) {
        int puzzles = 1;
        for (int cell = 0; cell < width * height; cell++) {
            puzzles *= 5;
        }
        for (int puzzle = 0; puzzle < puzzles; puzzle++) {
            StringBuilder text = new StringBuilder();
            int rest = puzzle;
            for (int cell = 0; cell < width * height; cell++) {
                text.append(cell > 0 && cell % width == 0 ? "/" : "").append(".0123".charAt(rest % 5));
                rest /= 5;
            }
            puzzle(text.toString());
        }
    }

    public static void main(String[] args) {
        allPuzzles(1, 1);
        allPuzzles(2, 1);
        allPuzzles(1, 2);
        allPuzzles(3, 1);
        allPuzzles(1, 3);
        allPuzzles(2, 2);
        check.end();
    }
}
