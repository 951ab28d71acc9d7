/** Promises 15 (misfit) and 17 (way). */
public final class MisfitTest {
    private static final int BAD = RingPuzzle.BAD, NONE = RingPuzzle.NONE;
    private static final Check check = new Check("MisfitTest");

    private static void misfits(String name, RingPuzzle x, int cell, int corner, int ring, int fits, int solved) {
        int[] due = {cell, corner, ring, fits, solved};
        for (int what = 0; what < due.length; what++) {
            check.due(name + ": misfit(" + what + ")", x.misfit(what), due[what]);
        }
    }

    private static RingPuzzle marked(String text, String marks) {
        return Puzzles.with(Puzzles.of(text), marks);
    }

    private static void cellsAndCorners() {
        misfits("as at first", new RingPuzzle(), NONE, NONE, NONE, 1, 0);
        misfits("more drawn than 0", marked("0", "d 1"), 0, NONE, NONE, 0, 0);
        misfits("as many drawn as 1", marked("1", "d 1"), NONE, NONE, NONE, 1, 0);
        misfits("more drawn than 1", marked("..1", "d 2 9"), 2, NONE, NONE, 0, 0);
        misfits("fewer left than 3", marked("...3", "o 3 7"), 3, NONE, NONE, 0, 0);
        misfits("as many left as 2", marked("...2", "o 3 7"), NONE, NONE, NONE, 1, 0);
        misfits("all ruled out around 0", marked("0", "o 0 1 2 3"), NONE, NONE, NONE, 1, 0);
        misfits("two cells", marked("3/3/3", "o 2 6 8"), 1, NONE, NONE, 0, 0);
        misfits("three drawn at a corner", marked("../..", "d 2 3 7"), NONE, 4, NONE, 0, 0);
        misfits("four drawn at a corner", marked("../..", "d 2 3 7 10"), NONE, 4, NONE, 0, 0);
        misfits("two drawn, none open", marked("../..", "d 2 3 o 7 10"), NONE, NONE, NONE, 1, 0);
        misfits("one drawn, none open", marked("../..", "d 1 o 8"), NONE, 2, NONE, 0, 0);
        misfits("one drawn, none open at its first corner", marked("../..", "d 1 o 7 0"), NONE, 1, NONE, 0, 0);
        misfits("none drawn, none open", marked("../..", "o 1 8"), NONE, NONE, NONE, 1, 0);
        misfits("one drawn, one open", marked("../..", "d 1 o 7"), NONE, NONE, NONE, 1, 0);
        misfits("cell and corner", marked("0./..", "d 0 o 6"), 0, 0, NONE, 0, 0);
    }

    private static void rings() {
        String center = "d 4 7 17 18";
        misfits("one ring", marked(".../.../...", center), NONE, NONE, NONE, 1, 1);
        misfits("one ring, counts met", marked("010/1.1/010", center), NONE, NONE, NONE, 1, 1);
        misfits("one ring, a count not met", marked("11./.../...", center), NONE, NONE, 4, 0, 0);
        misfits("one ring, a last count not met", marked(".../.../..1", center), NONE, NONE, 4, 0, 0);
        misfits("one ring, a count exceeded", marked(".../.3./...", center), 4, NONE, 4, 0, 0);
        misfits("one ring, a count of 0 exceeded", marked(".../0../...", center), 3, NONE, 4, 0, 0);
        misfits("a ring and an edge", marked(".../.../...", center + " 23"), NONE, NONE, 4, 0, 0);
        misfits("a ring and a lesser edge", marked(".../.../...", center + " 0"), NONE, NONE, 4, 0, 0);
        misfits("two rings", marked(".../.../...", "d 8 11 22 23 0 3 12 13"), NONE, NONE, 0, 0, 0);
        misfits("rings that touch", marked(".../.../...", "d 0 3 12 13 " + center), NONE, 5, NONE, 0, 0);
        misfits("a ring with a tail", marked(".../.../...", center + " 5"), NONE, 6, NONE, 0, 0);
        misfits("no ring yet", marked(".../.../...", "d 4 7 17"), NONE, NONE, NONE, 1, 0);
        misfits("the ring around all", marked("....", "d 0 1 2 3 4 5 6 7 8 12"), NONE, NONE, NONE, 1, 1);
        misfits("all ruled out but the ring", marked("..", "d 0 1 2 3 4 6 o 5"), NONE, NONE, NONE, 1, 1);
        misfits("a ring that is opened again", Puzzles.with(marked("..", "d 0 1 2 3 4 6"), "o 0"), NONE, 0, NONE, 0, 0);
        RingPuzzle x = marked("...", "d 0 3 6 7");
        x.mark(0, 0);
        misfits("a ring with an edge open again", x, NONE, NONE, NONE, 1, 0);
        x.mark(0, 1);
        misfits("the ring again", x, NONE, NONE, NONE, 1, 1);
        x.setCount(2, 0);
        misfits("the ring and a count met", x, NONE, NONE, NONE, 1, 1);
        x.setCount(2, 1);
        misfits("the ring and a count not met", x, NONE, NONE, 0, 0, 0);
        for (int what : new int[] {-1, 5, Integer.MIN_VALUE, Integer.MAX_VALUE}) {
            check.due("misfit(" + what + ")", x.misfit(what), BAD);
        }
    }

    private static void wayIs(RingPuzzle x, int edge, int many, int least, int ring) {
        check.due("way(" + edge + ", 0)", x.way(edge, 0), many);
        check.due("way(" + edge + ", 1)", x.way(edge, 1), least);
        check.due("way(" + edge + ", 2)", x.way(edge, 2), ring);
    }

    private static void ways() {
        RingPuzzle x = marked(".../.../...", "d 4 7 17 18 0 23 22 8 o 1");
        for (int edge : new int[] {4, 7, 17, 18}) {
            wayIs(x, edge, 7, 4, 0);
        }
        wayIs(x, 0, 1, 0, 0);
        wayIs(x, 1, NONE, NONE, NONE);
        wayIs(x, 2, NONE, NONE, NONE);
        x.mark(22, 2);
        wayIs(x, 17, 6, 4, 0);
        x.mark(8, 0);
        wayIs(x, 17, 4, 4, 1);
        wayIs(x, 23, 1, 23, 0);
        x.mark(18, 0);
        wayIs(x, 17, 3, 4, 0);
        x = marked("..../..../..../....", "d 0 21 5 22 2 23 28 33 38 19 18 17 16 35 30 25 20 o 24 10 6");
        wayIs(x, 38, 17, 0, 0);
        x.mark(19, 0);
        wayIs(x, 38, 16, 0, 1);
        x = marked("...", "d 0 3 6 7 2 5 8 9");
        wayIs(x, 7, 4, 0, 1);
        wayIs(x, 8, 4, 2, 1);
        x = marked("../..", "d 0 2 6 7 3 5 10 11");
        wayIs(x, 0, 8, 0, 0);
        x = marked("../..", "d 0 1 2 3 4 5 6 7 8 9 10 11");
        wayIs(x, 5, 12, 0, 0);
        for (int what : new int[] {-1, 3, Integer.MIN_VALUE, Integer.MAX_VALUE}) {
            check.due("way(0, " + what + ")", x.way(0, what), BAD);
        }
        for (int edge : new int[] {-1, 12, 64, Integer.MIN_VALUE, Integer.MAX_VALUE}) {
            check.due("way(" + edge + ", 0)", x.way(edge, 0), BAD);
        }
        check.due("way(0, 3) of an open edge", new RingPuzzle().way(0, 3), BAD);
        check.due("way(0, 0) of an open edge", new RingPuzzle().way(0, 0), NONE);
    }

    public static void main(String[] args) {
        cellsAndCorners();
        rings();
        ways();
        check.end();
    }
}
