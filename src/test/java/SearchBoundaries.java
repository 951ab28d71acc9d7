import java.math.BigInteger;
import java.util.ArrayList;
import java.util.List;

/** Sentences about solutions, the grade and the digest: promises 18, 19, 20, 21 and 23. */
final class SearchBoundaries {
    private static final int BAD = RingPuzzle.BAD, STATE = RingPuzzle.STATE, NONE = RingPuzzle.NONE;
    private static final int LEAST = Integer.MIN_VALUE, GREATEST = Integer.MAX_VALUE;
    private static final String EMPTY = ".../.../...";
    /** Puzzles whose searches for 20 solutions end near the limit, or whose first solution is found there. */
    private static final String OF_199 = "..../3.../.3.3/...2", LAST_AT_200 = "3.../..../3.../.2.1";
    /** Of 201 nodes the last one is the eighth solution; of 201 nodes none is one. */
    private static final String EIGHTH_AT_201 = "..../.12./...2", NONE_OF_201 = "..../..3./.3.3/1.33";
    private static final String FIRST_AT_200 = "..../..../23.0/3.0.", FIRST_AT_201 = "..../..../2.21/2..2";
    /** Exactly 19 solutions. */
    private static final String OF_19 = "23/../../..";

    private SearchBoundaries() {
    }

    static void tell(Sentences s) {
        tellSearch(s);
        tellAnswers(s);
        tellDigest(s);
    }

    private static void tellSearch(Sentences s) {
        s.test("18, 20", "A solution is a set of edges that contains all edges that are drawn, and none that is ruled out, such that the grid "
                + "is solved if exactly these edges are drawn, and all others are ruled out.", SearchBoundaries::solutionIs);
        s.test("18, 19, 20", "Solutions are found by a search, from the grid as it is: deductions of the rules 0 to 5 are made until there "
                + "is none.", SearchBoundaries::fromTheGridAsItIs);
        s.test("18, 19, 20", "If the grid does not fit then, there is no solution on this way;", SearchBoundaries::doesNotFit);
        s.test("18, 19, 20", "if it is solved, this is one (all open edges are ruled out in it).", SearchBoundaries::isSolved);
        s.test("18, 19, 20", "If no edge is open, there is no solution on this way.", SearchBoundaries::noneIsOpen);
        s.test("18, 19, 20", "Otherwise the open edge with the least number is drawn first, and the search goes on from there, and behind "
                + "that the same edge is ruled out, and the search goes on from there.", SearchBoundaries::drawnFirst);
        s.test("18, 19, 20", "Each beginning, also the first one, is a node; at most 200 nodes are looked at.", SearchBoundaries::atMost200);
    }

    private static void tellAnswers(Sentences s) {
        s.test("18", "Counts solutions by the search, up to some number: the search ends when so many are found, or no more node can be "
                + "looked at.", SearchBoundaries::searchEnds);
        s.test("18", "- most: 1 to 20", SearchBoundaries::mostSolutions);
        s.test("18", "Returns how many were found; BAD.", SearchBoundaries::solutionsAnswers);
        s.test("19", "Tells about the search for at most so many solutions.", SearchBoundaries::nodesOfSoMany);
        s.test("19", "- most: 1 to 20", SearchBoundaries::mostNodes);
        s.test("19", "Returns the number of nodes that are looked at, or -200 if it ended because a 201st one would have begun; BAD.",
                SearchBoundaries::nodesAnswers);
        s.test("20", "Tells whether an edge is drawn in the first solution that the search finds.", SearchBoundaries::firstSolution);
        s.test("20", "- edge: the edge", SearchBoundaries::solvedEdges);
        s.test("20", "Returns 1 or 0; BAD; NONE if none is found.", SearchBoundaries::solvedAnswers);
        s.test("21", "Grades the puzzle: from all edges open, whatever is marked now, deductions by all rules are made until there is none; "
                + "nothing is changed or counted by that.", SearchBoundaries::gradeChangesNothing);
        s.test("21", "Returns the greatest grade that was used; NONE if the grid is not solved behind them.", SearchBoundaries::gradeAnswers);
    }

    private static void tellDigest(Sentences s) {
        s.test("23", "It begins with h = 157; for each of the following numbers v, in this order, h becomes 31 * h + v, in long arithmetic "
                + "with overflow:", SearchBoundaries::digestOverflows);
        s.test("23", "count(0) to count(15);", SearchBoundaries::digestOfNumbers);
        s.test("23", "the counts of all cells;", SearchBoundaries::digestOfCounts);
        s.test("23", "the marks of all edges;", SearchBoundaries::digestOfMarks);
        s.test("23", "misfit(0) to misfit(4);", SearchBoundaries::digestOfMisfits);
        s.test("23", "hint(0) to hint(3), also if they are errors;", SearchBoundaries::digestOfHints);
        s.test("23", "solutions(2) and nodes(2);", SearchBoundaries::digestOfSearch);
        s.test("23", "grade();", SearchBoundaries::digestOfGrade);
        s.test("23", "the bytes of the text.", SearchBoundaries::digestOfText);
    }

    private static RingPuzzle marked(String text, String marks) {
        return Puzzles.with(Puzzles.of(text), marks);
    }

    private static void search(Check check, String name, RingPuzzle x, int most, int found, int nodes) {
        check.due(name + ": solutions(" + most + ")", x.solutions(most), found);
        check.due(name + ": nodes(" + most + ")", x.nodes(most), nodes);
    }

    private static String solution(RingPuzzle x) {
        StringBuilder solution = new StringBuilder();
        int edges = x.count(2);
        for (int edge = 0; edge < edges; edge++) {
            solution.append(x.solved(edge) == 1 ? "d" : x.solved(edge) == 0 ? "." : "?");
        }
        return solution.toString();
    }

    private static void solutionIs(Check check) {
        // The rings of two cells: around both, around the first, around the second.
        check.due("all rings", Puzzles.of("..").solutions(20), 3);
        check.due("those with edge 5", marked("..", "d 5").solutions(20), 2);
        check.due("those without edge 5", marked("..", "o 5").solutions(20), 1);
        check.due("those with the edges 0 and 1", marked("..", "d 0 1").solutions(20), 1);
        check.due("those with 0 and without 1", marked("..", "d 0 o 1").solutions(20), 1);
        check.due("those without 0 and 1, the empty set is none", marked("..", "o 0 1").solutions(20), 0);
        check.due("those with a count of 3", Puzzles.of("3.").solutions(20), 1);
        check.due("those with a count of 2", Puzzles.of("2.").solutions(20), 0);
        check.due("those with a count of 0", Puzzles.of("0.").solutions(20), 0);
        check.due("those with a count of 1, in a row of two", Puzzles.of("1.").solutions(20), 1);
        check.due("two rings at once are none", marked("...", "d 0 2 o 1").solutions(20), 0);
        check.due("all edges drawn are none", marked("..", "d 0 1 2 3 4 5 6").solutions(20), 0);
        RingPuzzle x = marked(EMPTY, "d 4 o 13 14 5 3");
        x.solutions(1);
        check.due("what is drawn", x.solved(4), 1);
        check.due("what is ruled out", x.solved(13), 0);
        for (int edge = 0; edge < 24; edge++) {
            x.mark(edge, x.solved(edge) == 1 ? 1 : 2);
        }
        check.due("it is solved with exactly these edges", x.misfit(4), 1);
    }

    private static void fromTheGridAsItIs(Check check) {
        search(check, "nothing drawn", Puzzles.of("."), 20, 1, 3);
        search(check, "an edge drawn, the others by rule 4", marked(".", "d 0"), 20, 1, 1);
        search(check, "an edge ruled out, the others by rule 3", marked(".", "o 0"), 20, 0, 1);
        search(check, "all by rule 0", Puzzles.of("0"), 20, 0, 1);
        search(check, "not by rule 6", Puzzles.of("3"), 20, 0, 3);
        search(check, "not by rule 7", Puzzles.of("33"), 20, 1, 3);
        search(check, "behind rule 7 was made", marked("33", "d 0"), 20, 1, 1);
        // Rule 5 rules out edge 5; without it, that edge would be tried.
        search(check, "by rule 5", marked(".2", "d 0 2 4"), 20, 0, 1);
        RingPuzzle x = marked("33", "d 0");
        String before = Puzzles.state(x);
        x.solutions(20);
        x.nodes(20);
        x.solved(0);
        check.holds("the grid stays", Puzzles.state(x).equals(before));
    }

    private static void doesNotFit(Check check) {
        search(check, "a cell, at once", marked("0", "d 0"), 20, 0, 1);
        search(check, "a corner, at once", marked("../..", "d 2 3 7"), 20, 0, 1);
        search(check, "a ring, at once", marked("..2", "d 0 3 6 7"), 20, 0, 1);
        search(check, "a ring with open edges, at once", marked("...", "d 0 3 6 7 2"), 20, 0, 1);
        search(check, "behind deductions", marked("3", "d 0"), 20, 0, 1);
        search(check, "on both ways", Puzzles.of("3"), 20, 0, 3);
        check.due("solved(0)", marked("0", "d 0").solved(0), NONE);
        check.due("solved(3)", Puzzles.of("3").solved(3), NONE);
    }

    private static void isSolved(Check check) {
        search(check, "solved at once, none is open", marked(".", "d 0 1 2 3"), 20, 1, 1);
        RingPuzzle x = marked(EMPTY, "d 4 7 17 18");
        search(check, "solved at once, 20 edges are open", x, 20, 1, 1);
        check.holds("the open ones are ruled out in it: " + solution(x), solution(x).equals("....d..d.........dd....."));
        search(check, "solved behind deductions", marked(EMPTY, "d 4 17 18 o 6 21 8 22"), 20, 1, 1);
        x = marked("..", "d 0 2 4 5");
        search(check, "no ring more by the open ones", x, 20, 1, 1);
        check.due("solved(1)", x.solved(1), 0);
    }

    private static void noneIsOpen(Check check) {
        search(check, "all ruled out at once", marked(".", "o 0 1 2 3"), 20, 0, 1);
        search(check, "all ruled out around a 0", marked("0", "o 0 1 2 3"), 20, 0, 1);
        search(check, "all ruled out by deductions", marked(".", "o 3"), 20, 0, 1);
        check.due("solved(0)", marked(".", "o 0 1 2 3").solved(0), NONE);
        search(check, "the second way ends so", Puzzles.of("."), 20, 1, 3);
    }

    private static void drawnFirst(Check check) {
        RingPuzzle x = Puzzles.of("..");
        search(check, "one solution", x, 1, 1, 3);
        check.holds("with the least open edges, 0 and 1: " + solution(x), solution(x).equals("ddddd.d"));
        search(check, "a second one", x, 2, 2, 4);
        search(check, "a third one, on the way without edge 0", x, 3, 3, 6);
        search(check, "and then none", x, 4, 3, 7);
        x = marked("..", "o 0");
        check.holds("edge 0 is not open: " + solution(x), solution(x).equals(".d.d.dd"));
        x = marked("..", "d 5");
        check.holds("edge 0 first, with 5: " + solution(x), solution(x).equals("d.d.dd."));
    }

    private static void atMost200(Check check) {
        search(check, "the first one alone", marked(".", "d 0"), 1, 1, 1);
        search(check, "199, and none is left", Puzzles.of(OF_199), 20, 16, 199);
        search(check, "200, and no more is asked for", Puzzles.of(LAST_AT_200), 20, 20, 200);
        search(check, "a 201st would be the last one, and a solution", Puzzles.of(EIGHTH_AT_201), 20, 7, -200);
        search(check, "a 201st would be the last one, and none", Puzzles.of(NONE_OF_201), 20, 0, -200);
        search(check, "far more than 200", Puzzles.of("..../..12/.233/.2.3"), 1, 0, -200);
        search(check, "the first solution at the 200th", Puzzles.of(FIRST_AT_200), 1, 1, 200);
        search(check, "the first solution at a 201st", Puzzles.of(FIRST_AT_201), 1, 0, -200);
        check.holds("solved() at the 200th", !solution(Puzzles.of(FIRST_AT_200)).contains("?"));
        check.holds("solved() at a 201st", !solution(Puzzles.of(FIRST_AT_201)).matches(".*[^?].*"));
    }

    private static void searchEnds(Check check) {
        check.due("one of many", new RingPuzzle().solutions(1), 1);
        check.due("20 of more", new RingPuzzle().solutions(20), 20);
        check.due("20 of 19", Puzzles.of(OF_19).solutions(20), 19);
        check.due("19 of 19", Puzzles.of(OF_19).solutions(19), 19);
        check.due("18 of 19", Puzzles.of(OF_19).solutions(18), 18);
        check.due("none of none", Puzzles.of("0").solutions(20), 0);
        check.due("those that are found where no more node can be looked at", Puzzles.of(EIGHTH_AT_201).solutions(20), 7);
        check.due("19, where a 201st node would find another", Puzzles.of("..../..2./..1./23..").solutions(20), 19);
        check.due("19 of those, where the search ends before", Puzzles.of("..../..2./..1./23..").solutions(19), 19);
    }

    private static void mostSolutions(Check check) {
        RingPuzzle x = new RingPuzzle();
        for (int most = 1; most <= 20; most++) {
            check.due("solutions(" + most + ")", x.solutions(most), most);
        }
        for (int most : new int[] {0, -1, 21, 256, LEAST, GREATEST}) {
            check.due("solutions(" + most + ")", x.solutions(most), BAD);
        }
    }

    private static void solutionsAnswers(Check check) {
        check.due("none", Puzzles.of("3").solutions(1), 0);
        check.due("one", Puzzles.of("33").solutions(20), 1);
        check.due("20", new RingPuzzle().solutions(20), 20);
        check.due("none of a grid that does not fit, no error", marked("0", "d 0").solutions(1), 0);
        Twins.refused(check, () -> Puzzles.of("33"), "solutions(0)", y -> y.solutions(0), BAD);
        Twins.refused(check, () -> Puzzles.of("33"), "solutions(21)", y -> y.solutions(21), BAD);
    }

    private static void nodesOfSoMany(Check check) {
        RingPuzzle x = Puzzles.of("..");
        int[] nodes = {3, 4, 6, 7, 7};
        for (int most = 1; most <= 5; most++) {
            check.due("nodes(" + most + ")", x.nodes(most), nodes[most - 1]);
        }
        check.due("nodes(20)", x.nodes(20), 7);
        check.due("nodes(1) again", x.nodes(1), 3);
        check.due("nodes(20) of 19", Puzzles.of(OF_19).nodes(20), 37);
    }

    private static void mostNodes(Check check) {
        RingPuzzle x = new RingPuzzle();
        check.due("nodes(1)", x.nodes(1), 7);
        check.due("nodes(20)", x.nodes(20), 44);
        for (int most : new int[] {0, -1, 21, 256, LEAST, GREATEST}) {
            check.due("nodes(" + most + ")", x.nodes(most), BAD);
        }
    }

    private static void nodesAnswers(Check check) {
        check.due("one", Puzzles.of("0").nodes(20), 1);
        check.due("199", Puzzles.of(OF_199).nodes(20), 199);
        check.due("200, the last solution is found there", Puzzles.of(LAST_AT_200).nodes(20), 200);
        check.holds("fewer, if fewer are asked for", Puzzles.of(LAST_AT_200).nodes(19) > 0 && Puzzles.of(LAST_AT_200).nodes(19) < 200);
        check.due("a 201st would have begun, and be the last one", Puzzles.of(NONE_OF_201).nodes(20), -200);
        check.due("a 201st would have begun, for the eighth solution", Puzzles.of(EIGHTH_AT_201).nodes(8), -200);
        check.holds("none of them for the seventh", Puzzles.of(EIGHTH_AT_201).nodes(7) > 0);
        check.due("a 201st would have begun, for the first solution", Puzzles.of(FIRST_AT_201).nodes(1), -200);
        check.due("no 201st, for the first solution", Puzzles.of(FIRST_AT_200).nodes(1), 200);
        check.due("but for the second one", Puzzles.of(FIRST_AT_200).nodes(2), -200);
        check.due("a grid that does not fit, no error", marked("0", "d 0").nodes(20), 1);
        Twins.refused(check, () -> Puzzles.of("33"), "nodes(0)", y -> y.nodes(0), BAD);
        Twins.refused(check, () -> Puzzles.of("33"), "nodes(21)", y -> y.nodes(21), BAD);
    }

    private static void firstSolution(Check check) {
        check.holds("one cell", solution(Puzzles.of(".")).equals("dddd"));
        check.holds("33", solution(Puzzles.of("33")).equals("ddddd.d"));
        check.holds("the first of three", solution(Puzzles.of("..")).equals("ddddd.d"));
        RingPuzzle x = marked(EMPTY, "d 11 23");
        x.solutions(20);
        check.due("whatever was asked before, edge 11", x.solved(11), 1);
        x.wipe();
        check.due("behind a change, edge 0", x.solved(0), 1);
        check.holds("none at all", solution(Puzzles.of("3")).equals("????"));
    }

    private static void solvedEdges(Check check) {
        for (String text : new String[] {".", "....", "./././.", "..../..../..../...."}) {
            RingPuzzle x = Puzzles.of(text);
            int edges = x.count(2);
            check.due("the first edge of " + text, x.solved(0), 1);
            check.holds("the last edge of " + text, x.solved(edges - 1) == 0 || x.solved(edges - 1) == 1);
            for (int edge : new int[] {-1, edges, edges + 1, 64, LEAST, GREATEST}) {
                check.due("solved(" + edge + ") of " + text, x.solved(edge), BAD);
            }
        }
        check.due("the last edge of 33", Puzzles.of("33").solved(6), 1);
        check.due("the one ahead of it", Puzzles.of("33").solved(5), 0);
    }

    private static void solvedAnswers(Check check) {
        RingPuzzle x = Puzzles.of("33");
        check.due("drawn", x.solved(0), 1);
        check.due("not drawn", x.solved(5), 0);
        check.due("no such edge", x.solved(7), BAD);
        x = Puzzles.of("3");
        check.due("none is found", x.solved(0), NONE);
        check.due("none is found, no such edge", x.solved(4), BAD);
        check.due("none is found, as the grid does not fit", marked("0", "d 0").solved(0), NONE);
        check.due("none is found within 200 nodes", Puzzles.of(FIRST_AT_201).solved(0), NONE);
        check.due("none is found within 200 nodes, no such edge", Puzzles.of(FIRST_AT_201).solved(40), BAD);
        Twins.refused(check, () -> Puzzles.of("33"), "solved(7)", y -> y.solved(7), BAD);
        Twins.refused(check, () -> Puzzles.of("33"), "solved(-1)", y -> y.solved(-1), BAD);
    }

    private static void gradeChangesNothing(Check check) {
        check.due("nothing is marked", Puzzles.of("33").grade(), 4);
        check.due("it is solved by marks", marked("33", "d 0 1 2 3 4 6 o 5").grade(), 4);
        check.due("a mark spoils it", marked("33", "d 5").grade(), 4);
        check.due("the grid does not fit", marked("33", "d 0 1 2 3 4 5 6").grade(), 4);
        check.due("all are ruled out", marked("33", "o 0 1 2 3 4 5 6").grade(), 4);
        check.due("solved by marks, not by deductions", marked(".", "d 0 1 2 3").grade(), NONE);
        for (String marks : new String[] {"d 0", "d 5", "o 0 1 2 3 4 5 6"}) {
            RingPuzzle x = marked("33", marks);
            x.grade();
            Twins.alike(check, "behind grade() with " + marks, x, marked("33", marks));
        }
        RingPuzzle x = Puzzles.of("33");
        x.deduce();
        x.grade();
        check.holds("what was counted: " + Puzzles.made(x), Puzzles.made(x).equals("0 0 0 0 0 0 0 1"));
        check.due("the next deduction", x.deduce(), 4);
        // Neither is what a trial found, left behind for the next deduction.
        x = marked("33", "d 0");
        int edge = x.hint(1);
        x.grade();
        check.due("hint(1) behind grade()", x.hint(1), edge);
    }

    private static void gradeAnswers(Check check) {
        check.due("the least grade", Puzzles.of("231/320/100").grade(), 1);
        check.due("a grade of 2", Puzzles.of(".10").grade(), 2);
        check.due("a grade of 3", Puzzles.of("..0/2.1").grade(), 3);
        check.due("the greatest grade", Puzzles.of("33").grade(), 4);
        check.due("not solved, no deduction", Puzzles.of(".").grade(), NONE);
        check.due("not solved, nothing drawn", Puzzles.of("0").grade(), NONE);
        check.due("not solved, it does not fit", Puzzles.of("3").grade(), NONE);
        check.due("not solved, deductions leave edges open", Puzzles.of("0.../..../..../....").grade(), NONE);
        check.due("at first", new RingPuzzle().grade(), NONE);
    }

    private static List<Integer> numbersOf(RingPuzzle x, String text) {
        List<Integer> numbers = new ArrayList<>();
        for (int what = 0; what <= 15; what++) {
            numbers.add(x.count(what));
        }
        for (int cell = 0; cell < numbers.get(0) * numbers.get(1); cell++) {
            numbers.add(x.countOf(cell));
        }
        for (int edge = 0; edge < numbers.get(2); edge++) {
            numbers.add(x.edge(edge));
        }
        for (int what = 0; what <= 4; what++) {
            numbers.add(x.misfit(what));
        }
        for (int what = 0; what <= 3; what++) {
            numbers.add(x.hint(what));
        }
        numbers.add(x.solutions(2));
        numbers.add(x.nodes(2));
        numbers.add(x.grade());
        for (char letter : text.toCharArray()) {
            numbers.add((int) letter);
        }
        return numbers;
    }

    /** Without an end of the numbers. */
    private static BigInteger sum(List<Integer> numbers) {
        BigInteger h = BigInteger.valueOf(157);
        for (int number : numbers) {
            h = h.multiply(BigInteger.valueOf(31)).add(BigInteger.valueOf(number));
        }
        return h;
    }

    private static void digest(Check check, String name, RingPuzzle x, String text) {
        check.due("digest() of " + name, x.digest(), sum(numbersOf(x, text)).longValue());
    }

    /** A number of the digest is this one, and the digest is the sum of all. */
    private static void number(Check check, String name, RingPuzzle x, String text, int index, int due) {
        List<Integer> numbers = numbersOf(x, text);
        check.due(name, numbers.get(index), due);
        check.due("digest() of " + name, x.digest(), sum(numbers).longValue());
    }

    private static void digestOverflows(Check check) {
        RingPuzzle x = new RingPuzzle();
        BigInteger sum = sum(numbersOf(x, ""));
        check.holds("the least digest is far beyond a long", sum(numbersOf(Puzzles.of("."), ".")).bitLength() > 150);
        check.due("digest() at first", x.digest(), sum.longValue());
        check.due("digest() again", x.digest(), sum.longValue());
        boolean negative = false;
        boolean positive = false;
        for (int letter = 0; letter < 16; letter++) {
            x.type(letter);
            negative |= x.digest() < 0;
            positive |= x.digest() > 0;
        }
        check.holds("some digests are negative and some are not", negative && positive);
    }

    private static void digestOfNumbers(Check check) {
        RingPuzzle x = marked("0123/..../3210/....", "d 0 1 o 39");
        number(check, "the first one, the width", x, "0123/..../3210/....", 0, 4);
        number(check, "the edges that are drawn", x, "0123/..../3210/....", 4, 2);
        number(check, "the last one, the length of the text", x, "0123/..../3210/....", 15, 19);
        x = Puzzles.of("33");
        x.deduceAll(7);
        number(check, "deductions of rule 7", x, "33", 13, 1);
        for (int change = 0; change < 9; change++) {
            x.wipe();
        }
        number(check, "a full history", x, "33", 14, 8);
    }

    private static void digestOfCounts(Check check) {
        RingPuzzle x = Puzzles.of("03/..");
        number(check, "a count of 0", x, "03/..", 16, 0);
        number(check, "a count of 3", x, "03/..", 17, 3);
        number(check, "no count", x, "03/..", 18, NONE);
        number(check, "the last cell", x, "03/..", 19, NONE);
        x.setCount(3, 2);
        number(check, "the last cell with a count", x, "03/..", 19, 2);
    }

    private static void digestOfMarks(Check check) {
        RingPuzzle x = marked("..", "d 0 o 6");
        number(check, "the first edge, drawn", x, "..", 18, 1);
        number(check, "open", x, "..", 19, 0);
        number(check, "the last edge, ruled out", x, "..", 24, 2);
        x = marked("..../..../..../....", "d 39");
        number(check, "the last edge of 40", x, "..../..../..../....", 71, 1);
    }

    private static void digestOfMisfits(Check check) {
        RingPuzzle x = marked(".../.../..0", "d 0 3 12 13 7 8 22");
        number(check, "a cell", x, ".../.../..0", 49, 8);
        number(check, "a corner", x, ".../.../..0", 50, 10);
        number(check, "a ring", x, ".../.../..0", 51, 0);
        number(check, "it does not fit", x, ".../.../..0", 52, 0);
        x = marked(".", "d 0 1 2 3");
        number(check, "no cell", x, ".", 21, NONE);
        number(check, "it fits", x, ".", 24, 1);
        number(check, "it is solved", x, ".", 25, 1);
    }

    private static void digestOfHints(Check check) {
        RingPuzzle x = marked("0", "d 0");
        for (int what = 0; what <= 3; what++) {
            number(check, "hint(" + what + ") of a grid that does not fit", x, "0", 26 + what, STATE);
            number(check, "hint(" + what + ") without a deduction", Puzzles.of("."), ".", 26 + what, NONE);
            number(check, "hint(" + what + ") of a solved grid", marked(".", "d 0 1 2 3"), ".", 26 + what, NONE);
        }
        int[] told = {1, 1, 1, 0};
        int[] ofTrial = {6, 0, 2, NONE};
        for (int what = 0; what <= 3; what++) {
            number(check, "hint(" + what + ") of rule 1", marked("3", "o 0"), "3", 26 + what, told[what]);
            number(check, "hint(" + what + ") of rule 6", Puzzles.of("3"), "3", 26 + what, ofTrial[what]);
        }
    }

    private static void digestOfSearch(Check check) {
        number(check, "two solutions", Puzzles.of(".."), "..", 34, 2);
        number(check, "the nodes for two", Puzzles.of(".."), "..", 35, 4);
        number(check, "no solution", Puzzles.of("3"), "3", 30, 0);
        number(check, "the nodes for none", Puzzles.of("3"), "3", 31, 3);
        int searchOfGreatest = 16 + 16 + 40 + 5 + 4;
        number(check, "one within 200 nodes", Puzzles.of(FIRST_AT_200), FIRST_AT_200, searchOfGreatest, 1);
        number(check, "a 201st one would have begun", Puzzles.of(FIRST_AT_200), FIRST_AT_200, searchOfGreatest + 1, -200);
    }

    private static void digestOfGrade(Check check) {
        number(check, "a grade", Puzzles.of("33"), "33", 36, 4);
        number(check, "no grade", Puzzles.of("3"), "3", 32, NONE);
        number(check, "a grade with other marks", marked("33", "d 5"), "33", 36, 4);
    }

    private static void digestOfText(Check check) {
        RingPuzzle x = new RingPuzzle();
        digest(check, "the empty text", x, "");
        StringBuilder text = new StringBuilder();
        for (int letter = 0; letter < 40; letter++) {
            char typed = (char) (letter % 2 == 0 ? letter : 127 - letter);
            x.type(typed);
            text.append(typed);
        }
        digest(check, "a full text", x, text.toString());
        x.type('1');
        digest(check, "a full text, and one byte that was refused", x, text.toString());
        x.clearText();
        digest(check, "the text that was emptied", x, "");
        x.type(127);
        x.type(0);
        digest(check, "the greatest byte and the least one", x, "\u007f\u0000");
    }
}
