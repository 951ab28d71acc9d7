/** Promises 12 (countOf), 13 (edge), 14 (edgeAt) and 22 (count). */
public final class GridTest {
    private static final int BAD = RingPuzzle.BAD, NONE = RingPuzzle.NONE;
    private static final Check check = new Check("GridTest");

    private static void countOf() {
        RingPuzzle x = Puzzles.of("012/3..");
        int[] counts = {0, 1, 2, 3, NONE, NONE};
        for (int cell = 0; cell < 6; cell++) {
            check.due("countOf(" + cell + ")", x.countOf(cell), counts[cell]);
        }
        for (int cell : new int[] {-1, 6, 9, 15, 16, Integer.MIN_VALUE, Integer.MAX_VALUE}) {
            check.due("countOf(" + cell + ")", x.countOf(cell), BAD);
        }
        x = Puzzles.of("..../..../..../...1");
        check.due("countOf(15)", x.countOf(15), 1);
        check.due("countOf(16)", x.countOf(16), BAD);
    }

    private static void edge() {
        RingPuzzle x = Puzzles.with(Puzzles.of("..../..../..../...."), "d 0 39 31 32 o 1 38 30 33");
        for (int edge = 0; edge < 40; edge++) {
            boolean drawn = edge == 0 || edge == 39 || edge == 31 || edge == 32;
            boolean out = edge == 1 || edge == 38 || edge == 30 || edge == 33;
            check.due("edge(" + edge + ")", x.edge(edge), drawn ? 1 : out ? 2 : 0);
        }
        for (int edge : new int[] {-1, 40, 63, 64, 65, Integer.MIN_VALUE, Integer.MAX_VALUE}) {
            check.due("edge(" + edge + ")", x.edge(edge), BAD);
        }
        check.due("edge(4) of one cell", Puzzles.of("2").edge(4), BAD);
    }

    private static void edgesAt(RingPuzzle x, boolean corner, int number, int... edges) {
        for (int i = 0; i < edges.length; i++) {
            check.due("edgeAt(" + corner + ", " + number + ", " + i + ")", x.edgeAt(corner, number, i), edges[i]);
        }
        for (int i : new int[] {edges.length, edges.length + 1, 64, Integer.MAX_VALUE}) {
            check.due("edgeAt(" + corner + ", " + number + ", " + i + ")", x.edgeAt(corner, number, i), NONE);
        }
        for (int i : new int[] {-1, Integer.MIN_VALUE}) {
            check.due("edgeAt(" + corner + ", " + number + ", " + i + ")", x.edgeAt(corner, number, i), BAD);
        }
    }

    private static void noPlace(RingPuzzle x, boolean corner, int many) {
        for (int number : new int[] {-1, many, many + 1, 64, Integer.MIN_VALUE, Integer.MAX_VALUE}) {
            check.due("edgeAt(" + corner + ", " + number + ", 0)", x.edgeAt(corner, number, 0), BAD);
            check.due("edgeAt(" + corner + ", " + number + ", 9)", x.edgeAt(corner, number, 9), BAD);
        }
    }

    private static void edgeAt() {
        RingPuzzle x = Puzzles.of("../..");
        edgesAt(x, false, 0, 0, 2, 6, 7);
        edgesAt(x, false, 1, 1, 3, 7, 8);
        edgesAt(x, false, 2, 2, 4, 9, 10);
        edgesAt(x, false, 3, 3, 5, 10, 11);
        noPlace(x, false, 4);
        edgesAt(x, true, 0, 0, 6);
        edgesAt(x, true, 1, 0, 1, 7);
        edgesAt(x, true, 2, 1, 8);
        edgesAt(x, true, 3, 2, 6, 9);
        edgesAt(x, true, 4, 2, 3, 7, 10);
        edgesAt(x, true, 5, 3, 8, 11);
        edgesAt(x, true, 6, 4, 9);
        edgesAt(x, true, 7, 4, 5, 10);
        edgesAt(x, true, 8, 5, 11);
        noPlace(x, true, 9);
        x = Puzzles.of("...");
        edgesAt(x, false, 0, 0, 3, 6, 7);
        edgesAt(x, false, 2, 2, 5, 8, 9);
        noPlace(x, false, 3);
        edgesAt(x, true, 3, 2, 9);
        edgesAt(x, true, 4, 3, 6);
        edgesAt(x, true, 5, 3, 4, 7);
        noPlace(x, true, 8);
        x = Puzzles.of("./././.");
        edgesAt(x, false, 3, 3, 4, 11, 12);
        edgesAt(x, true, 1, 0, 6);
        edgesAt(x, true, 4, 2, 7, 9);
        edgesAt(x, true, 9, 4, 12);
        noPlace(x, true, 10);
        x = Puzzles.of("..../..../..../....");
        edgesAt(x, false, 15, 15, 19, 38, 39);
        edgesAt(x, true, 12, 9, 10, 27, 32);
        edgesAt(x, true, 24, 19, 39);
        noPlace(x, true, 25);
        noPlace(x, false, 16);
    }

    private static void numbers() {
        RingPuzzle x = Puzzles.of(".2.1/3...");
        Puzzles.with(x, "d 0 1 o 5 9 10");
        int[] numbers = {4, 2, 22, 17, 2, 3, 0, 0, 0, 0, 0, 0, 0, 0, 6, 9};
        for (int what = 0; what < numbers.length; what++) {
            check.due("count(" + what + ")", x.count(what), numbers[what]);
        }
        for (int what : new int[] {-1, 16, 17, 100, Integer.MIN_VALUE, Integer.MAX_VALUE}) {
            check.due("count(" + what + ")", x.count(what), BAD);
        }
        x = Puzzles.of("3./..");
        x.deduceAll(7);
        check.due("all that is made is counted", x.count(6) + x.count(7) + x.count(8) + x.count(9) + x.count(10)
                + x.count(11) + x.count(12) + x.count(13), x.count(2) - x.count(3));
    }

    public static void main(String[] args) {
        countOf();
        edge();
        edgeAt();
        numbers();
        check.end();
    }
}
