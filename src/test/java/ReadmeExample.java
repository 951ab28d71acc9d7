public final class ReadmeExample {
    private static boolean draws(RingPuzzle puzzle, int edge) {
        return puzzle.edge(edge) == 1;
    }

    /** The horizontal edges have the least numbers, row by row; behind them come the vertical ones. */
    private static void show(RingPuzzle puzzle) {
        int width = puzzle.count(0);
        int height = puzzle.count(1);
        int vertical = (height + 1) * width;
        for (int row = 0; row <= height; row++) {
            StringBuilder line = new StringBuilder("+");
            for (int column = 0; column < width; column++) {
                line.append(draws(puzzle, row * width + column) ? "---+" : "   +");
            }
            System.out.println(line);
            if (row < height) {
                line = new StringBuilder();
                for (int column = 0; column <= width; column++) {
                    int count = column < width ? puzzle.countOf(row * width + column) : RingPuzzle.NONE;
                    line.append(draws(puzzle, vertical + row * (width + 1) + column) ? '|' : ' ');
                    line.append(column == width ? "" : count == RingPuzzle.NONE ? "   " : " " + count + " ");
                }
                System.out.println(line);
            }
        }
    }

    public static void main(String[] args) {
        RingPuzzle puzzle = new RingPuzzle();
        for (char letter : "33/..".toCharArray()) {
            puzzle.type(letter);
        }
        if (puzzle.fault() != RingPuzzle.NONE) {
            System.out.println("the text has a fault at " + puzzle.fault());
            return;
        }
        System.out.println(puzzle.setPuzzle() + " edges, grade " + puzzle.grade() + ", solutions: " + puzzle.solutions(20));
        while (puzzle.hint(0) >= 0) {
            String becomes = puzzle.hint(2) == 1 ? "drawn" : "ruled out";
            System.out.println("rule " + puzzle.hint(0) + ": edge " + puzzle.hint(1) + " is " + becomes);
            puzzle.deduce();
        }
        show(puzzle);
        System.out.println(puzzle.misfit(4) == 1 ? "solved" : "not solved");
        System.out.println("states to go back to: " + puzzle.undo());
    }
}
