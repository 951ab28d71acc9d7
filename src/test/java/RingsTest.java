import java.util.ArrayList;
import java.util.List;

/**
 * Promises 9, 10, 15 to 21: puzzles of all sizes against all rings that there are. Each solution is
 * such a ring, and no deduction loses one.
 */
public final class RingsTest {
    private static final int NONE = RingPuzzle.NONE;
    private static final int PUZZLES = 60;
    private static final Check check = new Check("RingsTest");

    private final Rings rings;
    private final int cells;
    private long seed;
    private String text;
    /** The counts of the puzzle, and the edges that are drawn and ruled out in it. */
    private final int[] counts;
    private long drawn;
    private long out;
    private String name;

    private RingsTest(Rings rings, long seed) {
        this.rings = rings;
        this.seed = seed;
        cells = rings.width * rings.height;
        counts = new int[cells];
    }

    private int below(int bound) {
        seed = seed * 6364136223846793005L + 1442695040888963407L;
        return (int) ((seed >>> 33) % bound);
    }

    /** Takes counts and marks from a ring, and some that are not from it. */
    private void choosePuzzle(int puzzle) {
        long ring = rings.all.get(below(rings.all.size()));
        boolean wrong = below(4) == 0;
        chooseCounts(ring, wrong);
        int marked = below(8);
        drawn = 0;
        out = 0;
        for (int edge = 0; edge < rings.edges; edge++) {
            boolean isDrawn = wrong && below(12) == 0 ? below(2) == 0 : Rings.in(ring, edge) == 1;
            if (below(10) < marked) {
                drawn |= isDrawn ? 1L << edge : 0;
                out |= isDrawn ? 0 : 1L << edge;
            }
        }
        name = "puzzle " + puzzle + ", " + text + " " + Puzzles.marks(made()) + ": ";
    }

    private void chooseCounts(long ring, boolean wrong) {
        int counted = below(11);
        StringBuilder all = new StringBuilder();
        for (int cell = 0; cell < cells; cell++) {
            int around = wrong && below(8) == 0 ? below(4) : rings.around(cell, ring);
            counts[cell] = below(10) < counted && around < 4 ? around : NONE;
            all.append(cell > 0 && cell % rings.width == 0 ? "/" : "");
            all.append(counts[cell] == NONE ? "." : "" + counts[cell]);
        }
        text = all.toString();
    }

    /** A new object with the puzzle, as an object is used for 512 calls only. */
    private RingPuzzle made() {
        RingPuzzle x = Puzzles.of(text);
        for (int edge = 0; edge < rings.edges; edge++) {
            if (Rings.in(drawn | out, edge) == 1) {
                x.mark(edge, Rings.in(drawn, edge) == 1 ? 1 : 2);
            }
        }
        return x;
    }

    private long marked(RingPuzzle x, int mark) {
        long set = 0;
        for (int edge = 0; edge < rings.edges; edge++) {
            set |= x.edge(edge) == mark ? 1L << edge : 0;
        }
        return set;
    }

    private boolean meetsCounts(long set) {
        for (int cell = 0; cell < cells; cell++) {
            if (counts[cell] != NONE && rings.around(cell, set) != counts[cell]) {
                return false;
            }
        }
        return true;
    }

    /** All rings with some edges, and without some others, that meet the counts. */
    private List<Long> solutions(long with, long without) {
        List<Long> solutions = new ArrayList<>();
        for (long ring : rings.all) {
            if ((ring & with) == with && (ring & without) == 0 && meetsCounts(ring)) {
                solutions.add(ring);
            }
        }
        return solutions;
    }

    private void searchFindsThem(List<Long> due) {
        RingPuzzle x = made();
        for (int most : new int[] {1, 2, 20}) {
            int found = x.solutions(most);
            int nodes = x.nodes(most);
            if (nodes == -200) {
                check.holds(name + "solutions(" + most + ") of a search that is cut short", found < most && found <= due.size());
            } else {
                check.due(name + "solutions(" + most + ")", found, Math.min(most, due.size()));
                check.holds(name + "nodes(" + most + ")", nodes >= Math.max(1, found) && nodes <= 200);
            }
        }
        if (x.solutions(1) == 1) {
            long first = 0;
            for (int edge = 0; edge < rings.edges; edge++) {
                first |= (long) x.solved(edge) << edge;
            }
            check.holds(name + "solved() is a solution", due.contains(first));
        } else {
            check.due(name + "solved(0)", x.solved(0), NONE);
        }
    }

    /** Rings that are drawn, those that do not fit, and whether the grid is solved. */
    private void ringsFit(List<Long> due) {
        RingPuzzle x = made();
        int badEdge = NONE;
        boolean solved = false;
        long inRings = 0;
        for (long ring : rings.all) {
            if ((ring & drawn) != ring || !rings.isAlone(ring, drawn)) {
                continue;
            }
            inRings |= ring;
            int least = Long.numberOfTrailingZeros(ring);
            if (ring == drawn && meetsCounts(drawn)) {
                solved = true;
            } else if (badEdge == NONE || least < badEdge) {
                badEdge = least;
            }
        }
        check.due(name + "misfit(2)", x.misfit(2), badEdge);
        check.due(name + "misfit(4)", x.misfit(4), solved ? 1 : 0);
        for (int edge = 0; edge < rings.edges; edge++) {
            int isRing = Rings.in(drawn, edge) == 0 ? NONE : Rings.in(inRings, edge);
            check.due(name + "way(" + edge + ", 2)", x.way(edge, 2), isRing);
        }
        if (solved) {
            check.due(name + "solutions of a solved grid", due.size(), 1);
        }
        if (x.misfit(3) == 0) {
            check.due(name + "solutions of a grid that does not fit", due.size(), 0);
        }
    }

    /** What is deduced is so in each solution; made to the end, deductions find the only one. */
    private void deductionsKeepThem(List<Long> due) {
        RingPuzzle x = made();
        for (int times = 0; times <= rings.edges && x.misfit(3) == 1; times++) {
            int edge = x.hint(1);
            int in = x.hint(2) == 1 ? 1 : 0;
            int rule = x.deduce();
            if (rule == NONE) {
                break;
            }
            int against = 0;
            for (long ring : due) {
                against += Rings.in(ring, edge) == in ? 0 : 1;
            }
            check.due(name + "solutions against edge " + edge + " by rule " + rule, against, 0);
        }
        long drawnThen = marked(x, 1);
        check.due(name + "solutions behind the deductions", solutions(drawnThen, marked(x, 2)).size(), due.size());
        if (x.misfit(4) == 1) {
            check.due(name + "solutions where deductions solve it", due.size(), 1);
            check.holds(name + "the ring that they draw", due.contains(drawnThen));
        } else if (x.misfit(3) == 0 || x.count(3) == 0) {
            check.due(name + "solutions where deductions come to none", due.size(), 0);
        }
    }

    private void gradesOneSolution() {
        RingPuzzle x = made();
        int grade = x.grade();
        if (grade != NONE) {
            check.due(name + "solutions with grade " + grade, solutions(0L, 0L).size(), 1);
        }
        x.wipe();
        x.deduceAll(7);
        check.due(name + "solved by deductions, with grade " + grade, x.misfit(4), grade == NONE ? 0 : 1);
    }

    private void allPuzzles() {
        for (int puzzle = 0; puzzle < PUZZLES; puzzle++) {
            choosePuzzle(puzzle);
            List<Long> due = solutions(drawn, out);
            searchFindsThem(due);
            ringsFit(due);
            deductionsKeepThem(due);
            gradesOneSolution();
        }
    }

    public static void main(String[] args) {
        long seed = args.length > 0 ? Long.parseLong(args[0]) : 1;
        int[] squares = {1, 13, 213, 9349};
        for (int width = 1; width <= 4; width++) {
            for (int height = 1; height <= 4; height++) {
                Rings rings = new Rings(width, height);
                if (width == height) {
                    check.due("rings of " + width + " times " + height, rings.all.size(), squares[width - 1]);
                }
                new RingsTest(rings, seed * 16 + width * 4 + height).allPuzzles();
            }
        }
        check.end();
    }
}
