/** Objects for the tests, and what they answer as one text. */
final class Puzzles {
    private Puzzles() {
    }

    static void typeAll(RingPuzzle puzzle, String text) {
        for (char letter : text.toCharArray()) {
            puzzle.type(letter);
        }
    }

    static RingPuzzle of(String text) {
        RingPuzzle puzzle = new RingPuzzle();
        typeAll(puzzle, text);
        puzzle.setPuzzle();
        return puzzle;
    }

    /** Marks edges: "d" and numbers to be drawn, "o" and numbers to be ruled out. */
    static RingPuzzle with(RingPuzzle puzzle, String marks) {
        int mark = 0;
        for (String word : marks.split(" ")) {
            if (word.equals("d")) {
                mark = 1;
            } else if (word.equals("o")) {
                mark = 2;
            } else if (!word.isEmpty()) {
                puzzle.mark(Integer.parseInt(word), mark);
            }
        }
        return puzzle;
    }

    static String marks(RingPuzzle puzzle) {
        StringBuilder marks = new StringBuilder();
        int edges = puzzle.count(2);
        for (int edge = 0; edge < edges; edge++) {
            marks.append(".do".charAt(puzzle.edge(edge)));
        }
        return marks.toString();
    }

    static String counts(RingPuzzle puzzle) {
        StringBuilder counts = new StringBuilder();
        int cells = puzzle.count(0) * puzzle.count(1);
        for (int cell = 0; cell < cells; cell++) {
            int count = puzzle.countOf(cell);
            counts.append(count == RingPuzzle.NONE ? "." : "" + count);
        }
        return counts.toString();
    }

    static String made(RingPuzzle puzzle) {
        StringBuilder made = new StringBuilder();
        for (int what = 6; what <= 13; what++) {
            made.append(puzzle.count(what)).append(what < 13 ? " " : "");
        }
        return made.toString();
    }

    /** All of a state, without the text and the history. */
    static String state(RingPuzzle puzzle) {
        return puzzle.count(0) + "x" + puzzle.count(1) + " " + counts(puzzle) + " " + marks(puzzle) + " " + made(puzzle);
    }
}
