/** Sentences about the rules and the deductions: promises 9, 10 and 16. */
final class RulesBoundaries {
    private static final int BAD = RingPuzzle.BAD, STATE = RingPuzzle.STATE, NONE = RingPuzzle.NONE;
    private static final int LEAST = Integer.MIN_VALUE, GREATEST = Integer.MAX_VALUE;
    private static final String EMPTY = ".../.../...";
    /** The ring around the cell in the center, but for its lower edge, and the edges at its upper corners ruled out. */
    private static final String ALMOST = "d 4 17 18 o 3 13 5 14";

    private RulesBoundaries() {
    }

    static void tell(Sentences s) {
        tellRules(s);
        tellOrder(s);
        tellDeductions(s);
    }

    private static void tellRules(Sentences s) {
        s.test("9", "A deduction changes one open edge. The rules are, with their numbers and grades:", RulesBoundaries::oneOpenEdge);
        s.test("9, 16, 21", "0 (grade 1): around a cell with a count, as many edges are drawn as it says: an open one around it is ruled out.",
                RulesBoundaries::rule0);
        s.test("9, 16, 21", "1 (grade 1): around a cell with a count, as many edges are drawn or open as it says: an open one around it is drawn.",
                RulesBoundaries::rule1);
        s.test("9, 16, 21", "2 (grade 1): at a corner, two edges are drawn: an open one at it is ruled out.", RulesBoundaries::rule2);
        s.test("9, 16, 21", "3 (grade 2): at a corner, no edge is drawn, and exactly one is open: it is ruled out.", RulesBoundaries::rule3);
        s.test("9, 16, 21", "4 (grade 2): at a corner, exactly one edge is drawn, and exactly one is open: it is drawn.", RulesBoundaries::rule4);
        s.test("9, 16, 21", "5 (grade 3): both corners of an open edge are joined by drawn edges, and the ring that it would close does not fit, "
                + "with this edge drawn and all others as they are: the edge is ruled out.", RulesBoundaries::rule5);
        s.test("9, 16, 21", "6 (grade 4): an open edge, drawn for a trial, leads to a grid that does not fit, at once, or by deductions of the "
                + "rules 0 to 5 alone, one after the other until it does not fit or there is none: it is ruled out.", RulesBoundaries::rule6);
        s.test("9, 16, 21", "7 (grade 4): likewise, an open edge that is ruled out for a trial: it is drawn.", RulesBoundaries::rule7);
    }

    private static void tellOrder(Sentences s) {
        s.test("9, 16", "The next deduction is that of the least rule that allows one;", RulesBoundaries::leastRule);
        s.test("9, 16", "of these, for the rules 0 and 1 that of the cell with the least number,", RulesBoundaries::leastCell);
        s.test("9, 16", "for 2 to 4 that of the corner with the least number,", RulesBoundaries::leastCorner);
        s.test("9, 16", "and then that of the edge with the least number", RulesBoundaries::leastEdge);
        s.test("9, 16", "(of all open edges, for 5 to 7;", RulesBoundaries::leastOfAllEdges);
        s.test("9, 16", "all are tried by 6 before any is by 7).", RulesBoundaries::sixAheadOfSeven);
        s.test("9, 16", "There is none if the grid does not fit, or is solved.", RulesBoundaries::noDeduction);
    }

    private static void tellDeductions(Sentences s) {
        s.test("9", "Returns its rule; STATE if the grid does not fit; NONE if there is no deduction (that is a change all the same).",
                RulesBoundaries::deduceAnswers);
        s.test("10", "Makes deductions, one after the other, until there is none.", RulesBoundaries::untilThereIsNone);
        s.test("10", "- most: the greatest rule that may be used, 0 to 7: a deduction by a greater one is not made, and ends it",
                RulesBoundaries::greatestRule);
        s.test("10", "Returns how many were made (0 is a change, too); BAD; STATE if the grid does not fit ahead of the first one.",
                RulesBoundaries::deduceAllAnswers);
        s.test("16", "Tells the next deduction, without making it.", RulesBoundaries::hintMakesNone);
        s.test("16", "- what: 0 for its rule, 1 for its edge, 2 for what the edge becomes, 3 for its cell or corner (NONE for the rules 5 to 7)",
                RulesBoundaries::hintParts);
        s.test("16", "Returns the number; BAD; STATE if the grid does not fit; NONE if there is no deduction.", RulesBoundaries::hintAnswers);
    }

    private static RingPuzzle marked(String text, String marks) {
        return Puzzles.with(Puzzles.of(text), marks);
    }

    /** The next deduction, as it is told and as it is made. */
    private static void next(Check check, String name, RingPuzzle x, int rule, int edge, int place) {
        int becomes = rule == 1 || rule == 4 || rule == 7 ? 1 : 2;
        check.due(name + ": hint(0)", x.hint(0), rule);
        check.due(name + ": hint(1)", x.hint(1), edge);
        check.due(name + ": hint(2)", x.hint(2), becomes);
        check.due(name + ": hint(3)", x.hint(3), place);
        check.due(name + ": deduce()", x.deduce(), rule);
        check.due(name + ": edge(" + edge + ")", x.edge(edge), becomes);
    }

    private static void none(Check check, String name, RingPuzzle x) {
        check.due(name + ": hint(0)", x.hint(0), NONE);
        check.due(name + ": deduce()", x.deduce(), NONE);
    }

    private static int many(RingPuzzle x, int[] edges, int mark) {
        int many = 0;
        for (int edge : edges) {
            many += x.edge(edge) == mark ? 1 : 0;
        }
        return many;
    }

    private static int firstOpen(RingPuzzle x, int[] edges) {
        for (int edge : edges) {
            if (x.edge(edge) == 0) {
                return edge;
            }
        }
        return NONE;
    }

    /** Some rules, and no other ones, solve a puzzle, which has the greatest of their grades. */
    private static void graded(Check check, String text, String rules, int grade) {
        RingPuzzle x = Puzzles.of(text);
        check.due("grade() of " + text, x.grade(), grade);
        x.deduceAll(7);
        check.due("misfit(4) of " + text, x.misfit(4), 1);
        for (int rule = 0; rule < 8; rule++) {
            check.holds("whether rule " + rule + " is used for " + text, x.count(6 + rule) > 0 == rules.indexOf('0' + rule) >= 0);
        }
    }

    private static void oneOpenEdge(Check check) {
        for (String text : new String[] {"33", "3", "2.2/.0./2.2", "0", ".2./3.1/.2."}) {
            RingPuzzle x = Puzzles.of(text);
            for (int open = x.count(3); open > 0 && x.hint(0) >= 0; open--) {
                String before = Puzzles.marks(x);
                int edge = x.hint(1);
                check.due("an open edge of " + text, x.edge(edge), 0);
                x.deduce();
                check.due("open edges of " + text, x.count(3), open - 1);
                String after = Puzzles.marks(x);
                check.holds("no other edge of " + text + " is changed", before.substring(0, edge).equals(after.substring(0, edge))
                        && before.substring(edge + 1).equals(after.substring(edge + 1)));
            }
        }
    }

    /** All marks of four edges around one cell or at one corner; the digits of a number by three. */
    private static RingPuzzle allMarks(String text, int[] edges, int number) {
        RingPuzzle x = Puzzles.of(text);
        int rest = number;
        for (int edge : edges) {
            x.mark(edge, rest % 3);
            rest /= 3;
        }
        return x;
    }

    /** The rules 0 and 1 around one cell, with all counts and marks. */
    private static void cellRule(Check check, int rule) {
        int[] around = {0, 1, 2, 3};
        for (String text : new String[] {".", "0", "1", "2", "3"}) {
            for (int number = 0; number < 81; number++) {
                RingPuzzle x = allMarks(text, around, number);
                if (x.misfit(3) == 0 || x.misfit(4) == 1) {
                    continue;
                }
                int drawn = many(x, around, 1);
                int open = many(x, around, 0);
                boolean by0 = !text.equals(".") && drawn == Integer.parseInt(text) && open > 0;
                boolean by1 = !text.equals(".") && drawn + open == Integer.parseInt(text) && open > 0;
                String name = text + " with " + Puzzles.marks(x);
                if (rule == 0 ? by0 : by1 && !by0) {
                    next(check, name, x, rule, firstOpen(x, around), 0);
                } else {
                    check.holds(name + " is not for rule " + rule, x.hint(0) != rule && x.deduce() != rule);
                }
            }
        }
    }

    private static void rule0(Check check) {
        cellRule(check, 0);
        graded(check, "..1./..32/.303/0.3.", "01", 1);
    }

    private static void rule1(Check check) {
        cellRule(check, 1);
        graded(check, "..1./..32/.303/0.3.", "01", 1);
    }

    /** The rules 2 to 4 at a corner with four edges and at one with two, with all marks. */
    private static void cornerRule(Check check, int rule) {
        int[][] edgesAt = {{3, 4, 13, 17}, {0, 12}};
        int[] corners = {5, 0};
        for (int i = 0; i < corners.length; i++) {
            for (int number = 0; number < Math.pow(3, edgesAt[i].length); number++) {
                RingPuzzle x = allMarks(EMPTY, edgesAt[i], number);
                int drawn = many(x, edgesAt[i], 1);
                int open = many(x, edgesAt[i], 0);
                boolean by2 = drawn == 2 && open > 0;
                boolean by3 = drawn == 0 && open == 1;
                boolean by4 = drawn == 1 && open == 1;
                String name = "corner " + corners[i] + " with " + Puzzles.marks(x);
                if (rule == 2 ? by2 : rule == 3 ? by3 : by4) {
                    next(check, name, x, rule, firstOpen(x, edgesAt[i]), corners[i]);
                } else {
                    check.holds(name + " is not for rule " + rule, x.hint(0) != rule);
                }
            }
        }
    }

    private static void rule2(Check check) {
        cornerRule(check, 2);
        graded(check, "23./320/.0./.0.", "012", 1);
        next(check, "the last corner that can", marked("../..", "d 4 5"), 2, 10, 7);
        next(check, "at a corner with three edges", marked("..", "d 0 5"), 2, 1, 1);
    }

    private static void rule3(Check check) {
        cornerRule(check, 3);
        graded(check, "320/23.", "0123", 2);
        next(check, "the last corner", marked("../..", "o 5"), 3, 11, 8);
        next(check, "at a corner with three edges", marked("..", "o 0 5 4"), 3, 1, 1);
    }

    private static void rule4(Check check) {
        cornerRule(check, 4);
        graded(check, ".../.33/.0./...", "0124", 2);
        next(check, "the last corner", marked("../..", "d 5"), 4, 11, 8);
        next(check, "at a corner with three edges", marked("../..", "d 0 6 o 7"), 4, 1, 1);
    }

    private static void rule5(Check check) {
        next(check, "a count that is not met", marked("1../.../...", ALMOST), 5, 7, NONE);
        next(check, "a count that is not met with this edge", marked(".../.../.2.", ALMOST), 5, 7, NONE);
        check.holds("a count that is met with this edge", marked(".../.../.1.", ALMOST).hint(0) != 5);
        check.holds("no count", marked(EMPTY, ALMOST).hint(0) != 5);
        String zero = ALMOST + " 2 15 1 0 12 16 19";
        next(check, "a count of 0 that is met, another that is not", marked("..0/.../1..", zero), 5, 7, NONE);
        check.holds("a count of 0 that is met", marked("..0/.../...", zero).hint(0) != 5);
        next(check, "an edge that does not belong to the ring", marked("..../..../..../....", "d 0 20 4 o 25 d 10"), 5, 21, NONE);
        check.holds("no edge that does not", marked("..../..../..../....", "d 0 20 4 o 25").hint(0) != 5);
        check.holds("corners that are not joined", marked("1../.../...", "d 17 18").hint(0) != 5);
        check.holds("only one of the corners has a drawn edge", marked("1../.../...", "d 17").hint(0) != 5);
        graded(check, "3.10", "01345", 3);
        graded(check, "3.3/3../303/23.", "01245", 3);
    }

    private static void rule6(Check check) {
        next(check, "it does not fit behind deductions", Puzzles.of("3"), 6, 0, NONE);
        none(check, "drawn, it is solved behind them", Puzzles.of("."));
        none(check, "there is none behind them, and it fits", new RingPuzzle());
        next(check, "it does not fit behind deductions of rule 5 among them", Puzzles.of(".2"), 6, 0, NONE);
        check.due("the rules up to 4 leave that fitting", afterTrial(".2", 0, 1, 4), 1);
        none(check, "it fits behind the rules 0 to 5, not behind all", Puzzles.of(".2."));
        check.due("edge 7 drawn, the rules up to 5", afterTrial(".2.", 7, 1, 5), 1);
        check.due("edge 7 drawn, all rules", afterTrial(".2.", 7, 1, 7), 0);
        graded(check, "3./31/..", "136", 4);
    }

    private static void rule7(Check check) {
        next(check, "it does not fit behind deductions", Puzzles.of("33"), 7, 0, NONE);
        next(check, "one count of 3", Puzzles.of(".3"), 7, 1, NONE);
        none(check, "ruled out, there is none behind them, and it fits", Puzzles.of("."));
        next(check, "it does not fit behind deductions of rule 5 among them", Puzzles.of("2.2/.2."), 7, 0, NONE);
        check.due("the rules up to 4 leave that fitting", afterTrial("2.2/.2.", 0, 2, 4), 1);
        none(check, "it fits behind the rules 0 to 5, not behind all", Puzzles.of(".2."));
        check.due("edge 0 ruled out, the rules up to 5", afterTrial(".2.", 0, 2, 5), 1);
        check.due("edge 0 ruled out, all rules", afterTrial(".2.", 0, 2, 7), 0);
        graded(check, "3.", "047", 4);
    }

    private static void leastRule(Check check) {
        next(check, "0 ahead of 1", marked("30", "o 2"), 0, 1, 1);
        next(check, "0 ahead of 2", marked("2.", "d 0 5"), 0, 2, 0);
        next(check, "0 ahead of 3", marked("20", "o 4"), 0, 1, 1);
        next(check, "0 ahead of 4", marked("./0", "d 3"), 0, 1, 1);
        next(check, "0 ahead of 5", marked("./2/0", "d 0 4 5"), 0, 2, 2);
        next(check, "1 ahead of 2", marked("3.", "d 2 5 o 0"), 1, 4, 0);
        next(check, "1 ahead of 3", marked("./3", "o 2 4"), 1, 1, 1);
        next(check, "1 ahead of 4", marked("32", "d 5 o 0"), 1, 2, 0);
        next(check, "1 ahead of 5", marked("./3", "d 0 1 4 o 2"), 1, 5, 1);
        next(check, "2 ahead of 3", marked("./.", "d 4 6 o 3"), 2, 1, 3);
        next(check, "2 ahead of 4", marked("./.", "d 4 6"), 2, 1, 3);
        next(check, "2 ahead of 5", marked("2/.", "d 1 5 6"), 2, 3, 2);
        next(check, "3 ahead of 4", marked("./.", "d 3 o 2"), 3, 5, 4);
        next(check, "3 ahead of 5", marked(".2", "d 0 2 4 o 1"), 3, 6, 2);
        next(check, "4 ahead of 5", marked("./2", "d 0 2 3 4"), 4, 5, 4);
        next(check, "5 ahead of 6", marked(".2", "d 0 2 4"), 5, 5, NONE);
        next(check, "5 ahead of 7", marked("././3", "d 0 4 5"), 5, 1, NONE);
        next(check, "6 ahead of 7", Puzzles.of("1"), 6, 0, NONE);
    }

    private static void leastCell(Check check) {
        next(check, "rule 0, two cells", Puzzles.of("..0/0.."), 0, 2, 2);
        next(check, "rule 0, not the cell with the least edge", marked(".0/0.", "o 1 3 7"), 0, 8, 1);
        next(check, "rule 0, all cells", Puzzles.of("0000/0000/0000/0000"), 0, 0, 0);
        next(check, "rule 0, the last cell alone", Puzzles.of("..../..../..../...0"), 0, 15, 15);
        next(check, "rule 1, two cells", marked("../33", "o 4 5"), 1, 2, 2);
        next(check, "rule 1, not the cell with the least edge", marked(".3/3.", "o 1 4 d 3 7"), 1, 8, 1);
        next(check, "rule 1, the last cell alone", marked("..../..../..../...3", "o 19"), 1, 15, 15);
    }

    private static void leastCorner(Check check) {
        next(check, "rule 2, two corners", marked(EMPTY, "d 10 11 3 4"), 2, 13, 5);
        next(check, "rule 2, not the corner with the least edge", marked("../..", "d 3 8 4 10 o 2 7"), 2, 11, 5);
        next(check, "rule 3, two corners", marked(EMPTY, "o 15 23"), 3, 2, 3);
        next(check, "rule 3, not the corner with the least edge", marked("../..", "o 0 9"), 3, 6, 0);
        next(check, "rule 4, two corners", marked(EMPTY, "d 11 2"), 4, 15, 3);
        next(check, "rule 4, not the corner with the least edge", marked("../..", "d 0 9"), 4, 6, 0);
    }

    private static void leastEdge(Check check) {
        next(check, "rule 0, four edges", Puzzles.of("0"), 0, 0, 0);
        next(check, "rule 0, the last of them", marked("0", "o 0 1 2"), 0, 3, 0);
        next(check, "rule 0, the ones between", marked("0", "o 0 3"), 0, 1, 0);
        next(check, "rule 1, three edges", marked("3", "o 0"), 1, 1, 0);
        next(check, "rule 1, two edges", marked("3", "o 1 d 0"), 1, 2, 0);
        next(check, "rule 1, one edge", marked("3.", "d 0 2 o 5"), 1, 4, 0);
        next(check, "rule 2, two edges", marked(EMPTY, "d 3 13"), 2, 4, 5);
        next(check, "rule 2, two others", marked(EMPTY, "d 13 17"), 2, 3, 5);
        next(check, "rule 2, the last of them", marked(EMPTY, "d 3 13 o 4"), 2, 17, 5);
    }

    private static void leastOfAllEdges(Check check) {
        next(check, "rule 5, two rings", marked("././.", "d 0 3 4 5 8 9"), 5, 1, NONE);
        next(check, "rule 6, the first edge", Puzzles.of("3"), 6, 0, NONE);
        next(check, "rule 6, a later one", Puzzles.of(".1"), 6, 1, NONE);
        next(check, "rule 7, the first edge", Puzzles.of("33"), 7, 0, NONE);
        next(check, "rule 7, a later one", Puzzles.of("./3"), 7, 2, NONE);
    }

    private static void sixAheadOfSeven(Check check) {
        check.due("33. with edge 0 ruled out does not fit", afterTrial("33.", 0, 2, 5), 0);
        check.due("33. with edge 2 drawn does not fit", afterTrial("33.", 2, 1, 5), 0);
        next(check, "the greater edge by 6", Puzzles.of("33."), 6, 2, NONE);
        check.due("3.1 with edge 0 ruled out does not fit", afterTrial("3.1", 0, 2, 5), 0);
        next(check, "the greater edge by 6", Puzzles.of("3.1"), 6, 2, NONE);
        next(check, "the same edge by 6", Puzzles.of("1"), 6, 0, NONE);
    }

    /** Whether it fits behind a mark and deductions of the rules up to some one. */
    private static int afterTrial(String text, int edge, int mark, int most) {
        RingPuzzle x = Puzzles.of(text);
        x.mark(edge, mark);
        x.deduceAll(most);
        return x.misfit(3);
    }

    private static void noDeduction(Check check) {
        RingPuzzle x = marked("0", "d 0");
        check.due("a cell does not fit, rule 0 would allow none", x.hint(0), STATE);
        x = marked("0/0", "d 0");
        check.due("a cell does not fit, rule 0 would allow one", x.deduce(), STATE);
        check.due("open edges", x.count(3), 6);
        x = marked(".../.../..0", "d 3 4 13");
        check.due("a corner does not fit, rule 0 would allow one", x.deduce(), STATE);
        x = marked("..0/.../...", "d 3 6 16 17 11");
        check.due("a ring does not fit, rule 0 would allow one", x.deduce(), STATE);
        x = marked(EMPTY, "d 4 7 17 18");
        none(check, "solved, rule 2 would allow one", x);
        check.due("open edges", x.count(3), 20);
        none(check, "solved, rule 0 would allow one", marked(".../.../..0", "d 0 3 12 13"));
        none(check, "solved, and none is open", marked(".", "d 0 1 2 3"));
        none(check, "not solved, and none is open", marked(".", "o 0 1 2 3"));
        x = Puzzles.of("33");
        check.due("deduceAll(7) ends where it is solved", x.deduceAll(7), 7);
        none(check, "solved by deductions", x);
    }

    private static void deduceAnswers(Check check) {
        String[][] puzzles = {{"0", ""}, {"3", "o 0"}, {EMPTY, "d 3 4"}, {EMPTY, "o 0"}, {EMPTY, "d 0"}, {".2", "d 0 2 4"},
            {"3", ""}, {"33", ""}};
        for (int rule = 0; rule < 8; rule++) {
            RingPuzzle x = marked(puzzles[rule][0], puzzles[rule][1]);
            int states = x.count(14);
            check.due("its rule", x.deduce(), rule);
            check.due("count(" + (6 + rule) + ")", x.count(6 + rule), 1);
            check.due("states", x.count(14), states + 1);
        }
        RingPuzzle x = new RingPuzzle();
        check.due("no deduction", x.deduce(), NONE);
        check.due("states, a change all the same", x.count(14), 1);
        check.due("undo() of it", x.undo(), 0);
        x = marked("0", "d 0");
        check.due("the grid does not fit", x.deduce(), STATE);
        check.due("states, no change", x.count(14), 2);
        Twins.refused(check, () -> marked("0/3", "d 0"), "deduce()", y -> y.deduce(), STATE);
    }

    private static void untilThereIsNone(Check check) {
        check.due("all of 40 edges", Puzzles.of("0000/0000/0000/0000").deduceAll(7), 40);
        check.due("none of 24 edges", new RingPuzzle().deduceAll(7), 0);
        check.due("one edge", marked("0", "o 0 1 2").deduceAll(7), 1);
        check.due("until it is solved", Puzzles.of("33").deduceAll(7), 7);
        RingPuzzle x = marked(EMPTY, "d 4 17 18 o 6 21 8 22");
        check.due("until it is solved, with open edges", x.deduceAll(7), 5);
        check.due("misfit(4)", x.misfit(4), 1);
        check.due("open edges", x.count(3), 12);
        x = Puzzles.of("3");
        check.due("until it does not fit", x.deduceAll(7), 3);
        check.due("misfit(3)", x.misfit(3), 0);
        check.due("an open edge", x.count(3), 1);
        // One by one, the same deductions are made.
        for (String text : new String[] {"33", "3", "2.2/.0./2.2", "231/320/100"}) {
            RingPuzzle all = Puzzles.of(text);
            RingPuzzle one = Puzzles.of(text);
            int made = all.deduceAll(7);
            for (int i = 0; i < made; i++) {
                check.holds("a deduction of " + text, one.deduce() >= 0);
            }
            check.holds("then there is none of " + text, one.deduce() < 0);
            check.holds("the same state of " + text, Puzzles.state(one).equals(Puzzles.state(all)));
        }
    }

    private static void greatestRule(Check check) {
        String[][] puzzles = {{"0", ""}, {"3", "o 0"}, {EMPTY, "d 3 4"}, {EMPTY, "o 0"}, {EMPTY, "d 0"}, {".2", "d 0 2 4"},
            {"3", ""}, {"33", ""}};
        for (int rule = 0; rule < 8; rule++) {
            for (int most = 0; most < 8; most++) {
                RingPuzzle x = marked(puzzles[rule][0], puzzles[rule][1]);
                int made = x.deduceAll(most);
                String name = "deduceAll(" + most + ") where the next rule is " + rule + ", which made " + made;
                check.holds(name, most < rule ? made == 0 : made > 0);
                for (int greater = most + 1; greater < 8; greater++) {
                    check.due(name + ": count(" + (6 + greater) + ")", x.count(6 + greater), 0);
                }
            }
        }
        RingPuzzle x = Puzzles.of("33");
        for (int most : new int[] {-1, 8, 256, LEAST, GREATEST}) {
            check.due("deduceAll(" + most + ")", x.deduceAll(most), BAD);
        }
        // Behind rule 3, the rules 1 and 2 would go on.
        x = marked("2./..", "o 0");
        check.due("it is ended by rule 3", x.deduceAll(2), 0);
        check.due("with 3, it goes on to rule 4", x.deduceAll(3), 5);
        check.holds("what was made: " + Puzzles.made(x), Puzzles.made(x).equals("0 2 2 1 0 0 0 0"));
    }

    private static void deduceAllAnswers(Check check) {
        RingPuzzle x = new RingPuzzle();
        check.due("0 is a change", x.deduceAll(0), 0);
        check.due("states", x.count(14), 1);
        x = Puzzles.of("0");
        check.due("4 are one change", x.deduceAll(0), 4);
        check.due("states", x.count(14), 2);
        check.due("undo() of all of them", x.undo(), 1);
        check.due("open edges", x.count(3), 4);
        x = Puzzles.of("3");
        check.due("the grid does not fit behind the last one", x.deduceAll(7), 3);
        check.due("the grid does not fit ahead of the first one", x.deduceAll(7), STATE);
        check.due("it does not, and the rule is out of range", x.deduceAll(8), BAD);
        check.due("states, without the errors", x.count(14), 2);
        check.due("solved, 0 is a change", marked(".", "d 0 1 2 3").deduceAll(7), 0);
        Twins.refused(check, () -> marked("0/3", "d 0"), "deduceAll(0)", y -> y.deduceAll(0), STATE);
        Twins.refused(check, () -> Puzzles.of("33"), "deduceAll(8)", y -> y.deduceAll(8), BAD);
        Twins.refused(check, () -> Puzzles.of("33"), "deduceAll(-1)", y -> y.deduceAll(-1), BAD);
    }

    private static void hintMakesNone(Check check) {
        for (String text : new String[] {"0", "33", "3", ".", "231/320/100"}) {
            RingPuzzle x = Puzzles.of(text);
            for (int what = 0; what <= 3; what++) {
                x.hint(what);
            }
            Twins.alike(check, "behind hint() of " + text, x, Puzzles.of(text));
            x = Puzzles.of(text);
            int rule = x.hint(0);
            check.due("hint(0) of " + text + " again", x.hint(0), rule);
            check.due("deduce() of " + text, x.deduce(), rule);
        }
    }

    private static void hintParts(Check check) {
        next(check, "rule 0, the last cell", Puzzles.of("..../..../..../...0"), 0, 15, 15);
        next(check, "rule 1, the first cell", marked("3", "o 0"), 1, 1, 0);
        next(check, "rule 2, a corner", marked(EMPTY, "d 3 4"), 2, 13, 5);
        next(check, "rule 3, the first corner", marked(EMPTY, "o 0"), 3, 12, 0);
        next(check, "rule 4, the last corner", marked("..../..../..../....", "d 19"), 4, 39, 24);
        next(check, "rule 5, no place", marked(".2", "d 0 2 4"), 5, 5, NONE);
        next(check, "rule 6, no place", Puzzles.of("3"), 6, 0, NONE);
        next(check, "rule 7, no place", Puzzles.of("33"), 7, 0, NONE);
    }

    private static void hintAnswers(Check check) {
        for (int what : new int[] {-1, 4, 256, LEAST, GREATEST}) {
            check.due("hint(" + what + ") with a deduction", Puzzles.of("0").hint(what), BAD);
            check.due("hint(" + what + ") without one", new RingPuzzle().hint(what), BAD);
            check.due("hint(" + what + ") of a grid that does not fit", marked("0", "d 0").hint(what), BAD);
        }
        for (int what = 0; what <= 3; what++) {
            check.due("hint(" + what + ") without a deduction", new RingPuzzle().hint(what), NONE);
            check.due("hint(" + what + ") of a solved grid", marked(".", "d 0 1 2 3").hint(what), NONE);
            check.due("hint(" + what + ") of a cell that does not fit", marked("0", "d 0").hint(what), STATE);
            check.due("hint(" + what + ") of a corner that does not fit", marked("../..", "d 2 3 7").hint(what), STATE);
            check.due("hint(" + what + ") of a ring that does not fit", marked("..2", "d 0 3 6 7").hint(what), STATE);
        }
    }
}
