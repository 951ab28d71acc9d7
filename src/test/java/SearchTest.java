/** Promises 18 (solutions), 19 (nodes), 20 (solved) and 21 (grade). */
public final class SearchTest {
    private static final int BAD = RingPuzzle.BAD, NONE = RingPuzzle.NONE;
    private static final Check check = new Check("SearchTest");

    private static RingPuzzle marked(String text, String marks) {
        return Puzzles.with(Puzzles.of(text), marks);
    }

    private static void search(String name, RingPuzzle x, int most, int found, int nodes) {
        String before = Puzzles.state(x);
        int states = x.count(14);
        check.due(name + ": solutions(" + most + ")", x.solutions(most), found);
        check.due(name + ": nodes(" + most + ")", x.nodes(most), nodes);
        check.holds(name + ": nothing changes", Puzzles.state(x).equals(before) && x.count(14) == states);
    }

    private static void smallSearches() {
        // Edge 0 drawn solves it by rule 4; ruled out, rule 3 rules out all others.
        search("one cell", Puzzles.of("."), 1, 1, 2);
        search("one cell", Puzzles.of("."), 2, 1, 3);
        search("one cell", Puzzles.of("."), 20, 1, 3);
        search("a count of 3", Puzzles.of("3"), 20, 0, 3);
        search("a count of 0", Puzzles.of("0"), 20, 0, 1);
        search("solved", marked(".", "d 0 1 2 3"), 20, 1, 1);
        search("solved by rule 4", marked(".", "d 3"), 20, 1, 1);
        search("no ring by rule 3", marked(".", "o 3"), 20, 0, 1);
        search("all ruled out", marked(".", "o 0 1 2 3"), 20, 0, 1);
        search("a grid that does not fit", marked("0", "d 0"), 20, 0, 1);
        // Drawn: 0 and 1 (outside), 0 alone (cell 0), 1 alone (cell 1), none.
        search("two cells, the first ring", Puzzles.of(".."), 1, 1, 3);
        search("two cells, two rings", Puzzles.of(".."), 2, 2, 4);
        search("two cells, all rings", Puzzles.of(".."), 3, 3, 6);
        search("two cells, more than there are", Puzzles.of(".."), 4, 3, 7);
        search("two cells, the middle is drawn", marked("..", "d 5"), 20, 2, 3);
        search("two cells, the middle is out", marked("..", "o 5"), 20, 1, 3);
        search("two counts of 3", Puzzles.of("33"), 20, 1, 3);
        search("two counts of 3, the first ring", Puzzles.of("33"), 1, 1, 2);
        search("a ring with edges open is one solution", marked("..", "d 0 2 4 5"), 20, 1, 1);
    }

    private static void limits() {
        search("199 nodes, and none is left", Puzzles.of("..../3.../.3.3/...2"), 20, 16, 199);
        search("the last solution at the 200th node", Puzzles.of("3.../..../3.../.2.1"), 20, 20, 200);
        search("a 201st node would begin", Puzzles.of("3.../1.../..1./3.23"), 20, 14, -200);
        search("a 201st node would be the last solution", Puzzles.of("..../..2./..1./23.."), 20, 19, -200);
        search("none within 200 nodes", Puzzles.of("..../..12/.233/.2.3"), 1, 0, -200);
        check.due("solved(0), as none is found", Puzzles.of("..../..12/.233/.2.3").solved(0), NONE);
        RingPuzzle x = new RingPuzzle();
        for (int most : new int[] {0, -1, 21, Integer.MIN_VALUE, Integer.MAX_VALUE}) {
            check.due("solutions(" + most + ")", x.solutions(most), BAD);
            check.due("nodes(" + most + ")", x.nodes(most), BAD);
        }
        for (int most = 1; most <= 20; most++) {
            check.due("solutions(" + most + ")", x.solutions(most), most);
        }
    }

    /** No answer depends on what was asked before. */
    private static void askedAlone() {
        check.due("nodes(1), asked first", Puzzles.of("..").nodes(1), 3);
        check.due("solutions(20), asked first", Puzzles.of("..").solutions(20), 3);
        check.due("solved(6), asked first", Puzzles.of("..").solved(6), 1);
        RingPuzzle x = Puzzles.of("..");
        check.due("solutions(20)", x.solutions(20), 3);
        check.due("nodes(2) behind solutions(20)", x.nodes(2), 4);
        check.due("solutions(1) behind nodes(2)", x.solutions(1), 1);
        x.mark(0, 2);
        check.due("nodes(20) behind mark()", x.nodes(20), 3);
        x.mark(1, 2);
        check.due("solved(0) behind mark()", x.solved(0), NONE);
        check.due("solutions(20) behind solved()", x.solutions(20), 0);
        x.undo();
        x.undo();
        check.due("solved(0) behind undo()", x.solved(0), 1);
    }

    private static void solvedIs(RingPuzzle x, String solution) {
        for (int edge = 0; edge < solution.length(); edge++) {
            check.due("solved(" + edge + ")", x.solved(edge), solution.charAt(edge) - '0');
        }
        for (int edge : new int[] {-1, solution.length(), 64, Integer.MIN_VALUE, Integer.MAX_VALUE}) {
            check.due("solved(" + edge + ")", x.solved(edge), BAD);
        }
    }

    private static void solved() {
        solvedIs(Puzzles.of("."), "1111");
        solvedIs(Puzzles.of("33"), "1111101");
        solvedIs(Puzzles.of("33/.."), PlainSolution.of("33/.."));
        solvedIs(Puzzles.of(".3."), PlainSolution.of(".3."));
        // The least open edge is drawn first: the ring around cell 1 has neither edge 0 nor 2.
        solvedIs(marked("..", "o 0"), "0101011");
        solvedIs(marked("..", "d 5"), "1010110");
        solvedIs(marked(".../.../...", "d 4 7 17 18"), "000010010000" + "000001100000");
        for (int edge = 0; edge < 4; edge++) {
            check.due("solved(" + edge + ") of 3", Puzzles.of("3").solved(edge), NONE);
            check.due("solved(" + edge + ") with all out", marked(".", "o 0 1 2 3").solved(edge), NONE);
            check.due("solved(" + edge + ") of a misfit", marked("0", "d 1").solved(edge), NONE);
        }
        check.due("solved(4) of 3", Puzzles.of("3").solved(4), BAD);
    }

    /** The search against what a solution is: every set of edges is tried. */
    private static void againstAllSets() {
        String[] texts = {"..", ".3", "./.", "...", ".2.", "./3/.", "../..", "3./..", "22/..", "2./.2", "22/22",
            "3./.3", "1./..", "33/..", "3./3.", "0./..", "12/.."};
        for (String text : texts) {
            for (String marks : new String[] {"", "d 1", "o 1", "d 0 o 4", "d 6", "o 6 3"}) {
                RingPuzzle x = Puzzles.of(text);
                PlainRing plain = new PlainRing();
                for (char letter : text.toCharArray()) {
                    plain.type(letter);
                }
                plain.setPuzzle();
                int mark = 0;
                for (String word : marks.split(" ")) {
                    if (word.equals("d") || word.equals("o")) {
                        mark = word.equals("d") ? 1 : 2;
                    } else if (!word.isEmpty()) {
                        x.mark(Integer.parseInt(word), mark);
                        plain.mark(Integer.parseInt(word), mark);
                    }
                }
                check.due("solutions(20) of " + text + " with " + marks, x.solutions(20), plain.solutionsByTrying());
            }
        }
    }

    private static void gradeIs(String text, int grade) {
        RingPuzzle x = Puzzles.of(text);
        check.due("grade() of " + text, x.grade(), grade);
        int open = x.deduceAll(7);
        check.due("misfit(4) of " + text + " behind " + open + " deductions", x.misfit(4), grade == NONE ? 0 : 1);
        int[] grades = {1, 1, 1, 2, 2, 3, 4, 4};
        int greatest = NONE;
        for (int rule = 0; rule < 8; rule++) {
            if (grade != NONE && x.count(6 + rule) > 0) {
                greatest = Math.max(greatest, grades[rule]);
            }
        }
        check.due("the greatest grade that was counted of " + text, greatest, grade);
        // Whatever is marked does not matter, and what was counted stays.
        String before = Puzzles.state(x);
        int states = x.count(14);
        check.due("grade() of " + text + " behind them", x.grade(), grade);
        check.holds("grade() of " + text + " changes nothing", Puzzles.state(x).equals(before) && x.count(14) == states);
        x.mark(0, x.edge(0) == 1 ? 2 : 1);
        x.mark(1, x.edge(1) == 1 ? 2 : 1);
        check.due("grade() of " + text + " with other marks", x.grade(), grade);
    }

    private static void grade() {
        for (String text : new String[] {"231/320/100", "132/023/001", "222/333/101", "232/303/232", "2310/3200/1000/0000"}) {
            gradeIs(text, 1);
        }
        for (String text : new String[] {".10", "01.", "../01", ".0/.1"}) {
            gradeIs(text, 2);
        }
        for (String text : new String[] {"..0/2.1", "..0/3.1", ".10/3.0", ".31/3.0"}) {
            gradeIs(text, 3);
        }
        for (String text : new String[] {"33", ".1", "3/.", "3/3", "1."}) {
            gradeIs(text, 4);
        }
        for (String text : new String[] {".", "0", "1", "3", "..", "...", "../..", "00/00"}) {
            gradeIs(text, NONE);
        }
        RingPuzzle x = Puzzles.of("0/3");
        check.due("grade() of counts that no ring meets", x.grade(), NONE);
        x = Puzzles.of("33");
        x.setCount(0, NONE);
        x.setCount(1, NONE);
        check.due("grade() behind setCount()", x.grade(), NONE);
        x.setCount(1, 3);
        check.due("grade() behind setCount()", x.grade(), 4);
        check.due("grade() at first", new RingPuzzle().grade(), NONE);
    }

    public static void main(String[] args) {
        smallSearches();
        limits();
        askedAlone();
        solved();
        againstAllSets();
        grade();
        check.end();
    }

    /** The first solution by the plain model. */
    private static final class PlainSolution {
        static String of(String text) {
            PlainRing plain = new PlainRing();
            for (char letter : text.toCharArray()) {
                plain.type(letter);
            }
            plain.setPuzzle();
            StringBuilder solution = new StringBuilder();
            for (int edge = 0; edge < plain.count(2); edge++) {
                solution.append(plain.solved(edge));
            }
            return solution.toString();
        }
    }
}
