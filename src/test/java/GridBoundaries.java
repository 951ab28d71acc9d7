import java.util.ArrayList;
import java.util.List;

/** Sentences about the grid, what does not fit, and what is told: promises 1, 12, 13, 14, 15, 17 and 22. */
final class GridBoundaries {
    private static final int BAD = RingPuzzle.BAD, STATE = RingPuzzle.STATE, NONE = RingPuzzle.NONE;
    private static final int LEAST = Integer.MIN_VALUE, GREATEST = Integer.MAX_VALUE;
    private static final String EMPTY = ".../.../...", WIDE = "..../..../..../....";
    /** The longest ring of the greatest grid: of 25 corners, it leaves out one. */
    private static final String LONGEST = "d 0 3 5 6 9 10 11 13 14 15 16 17 18 19 20 21 23 24 25 29 30 31 35 39";

    private GridBoundaries() {
    }

    static void tell(Sentences s) {
        s.test("1", "Creates a puzzle as at first, with an empty text.", GridBoundaries::newObject);
        tellGrid(s);
        tellFits(s);
        tellPlaces(s);
        tellMisfits(s);
        tellWays(s);
        tellNumbers(s);
    }

    private static void tellGrid(Sentences s) {
        s.test("5, 22", "The grid has a width and a height, 1 to 4 cells each.", GridBoundaries::sizes);
        s.test("12", "Cells are numbered from 0, row by row: the cell in row r and column c has the number r * width + c.",
                GridBoundaries::cellNumbers);
        s.test("5, 6, 12", "A cell has a count from 0 to 3, or none.", GridBoundaries::cellCounts);
        s.test("14", "Corners are numbered likewise: there are height + 1 rows of width + 1 corners.", GridBoundaries::cornerNumbers);
        s.test("14", "Edges lead between neighboring corners.", GridBoundaries::edgesLead);
        s.test("14", "First, the horizontal edges are numbered, from 0: the one above row r of cells (or below the last row, "
                + "with r = height) in column c has the number r * width + c.", GridBoundaries::horizontalEdges);
        s.test("14", "Then come the vertical ones: with b = (height + 1) * width, the one in row r, left of column c of cells "
                + "(or right of the last column, with c = width), has the number b + r * (width + 1) + c.", GridBoundaries::verticalEdges);
        s.test("7, 13", "An edge is open (0), drawn (1), or ruled out (2).", GridBoundaries::edgeMarks);
        s.test("1", "At first the grid has 3 rows of 3 cells without counts, and all edges are open.", GridBoundaries::firstGrid);
    }

    private static void tellFits(Sentences s) {
        s.test("15", "A cell with a count does not fit if more edges around it are drawn than the count, or fewer are drawn or open.",
                GridBoundaries::cellFits);
        s.test("15", "A corner does not fit if more than two edges at it are drawn, or one is and no other one is open.",
                GridBoundaries::cornerFits);
        s.test("17", "A ring is a set of drawn edges that forms a closed way through corners, each of which has exactly two drawn edges;",
                GridBoundaries::rings);
        s.test("15", "a ring does not fit if there is a drawn edge that does not belong to it,", GridBoundaries::ringAndEdge);
        s.test("15", "or a cell with a count around which not as many edges are drawn.", GridBoundaries::ringAndCount);
        s.test("15", "The grid fits if all cells, corners and rings fit.", GridBoundaries::gridFits);
        s.test("15", "It is solved if it fits, and there is a ring.", GridBoundaries::gridSolved);
        s.test("15", "(Open edges do not matter then.)", GridBoundaries::openEdgesDoNotMatter);
    }

    private static void tellPlaces(Sentences s) {
        s.test("12", "- cell: the cell", GridBoundaries::countOfCell);
        s.test("12", "Returns the count; BAD; NONE if it has none.", GridBoundaries::countOfAnswers);
        s.test("13", "- edge: the edge", GridBoundaries::edgeNumbers);
        s.test("13", "Returns 0 open, 1 drawn, 2 ruled out; BAD.", GridBoundaries::edgeAnswers);
        s.test("14", "- corner: whether a corner is meant, else a cell", GridBoundaries::cornerOrCell);
        s.test("14", "- number: the number of the cell or corner", GridBoundaries::placeNumbers);
        s.test("14", "- i: its index, from 0, among the edges around the cell, or at the corner, by ascending numbers",
                GridBoundaries::placeIndexes);
        s.test("14", "Returns the edge; BAD if there is no such cell or corner, or i is negative; NONE if there are not so many.",
                GridBoundaries::edgeAtAnswers);
    }

    private static void tellMisfits(Sentences s) {
        s.test("15", "- what: 0 for the first cell that does not fit,", GridBoundaries::firstCell);
        s.test("15", "1 for the first corner,", GridBoundaries::firstCorner);
        s.test("15", "2 for the least number of an edge of a ring that does not fit,", GridBoundaries::leastOfRings);
        s.test("15", "3 for 1 if the grid fits, else 0,", GridBoundaries::fitsIsOneOrZero);
        s.test("15", "4 for 1 if it is solved, else 0", GridBoundaries::solvedIsOneOrZero);
        s.test("15", "Returns the number; BAD; NONE if there is no such thing (0 to 2).", GridBoundaries::misfitAnswers);
    }

    private static void tellWays(Sentences s) {
        s.test("17", "Tells about the way of drawn edges to which an edge belongs: all drawn edges that are joined with it by corners.",
                GridBoundaries::waysEnd);
        s.test("17", "- edge: the edge", GridBoundaries::wayEdges);
        s.test("17", "- what: 0 for the number of its edges,", GridBoundaries::wayLengths);
        s.test("17", "1 for the least number of them,", GridBoundaries::wayLeast);
        s.test("17", "2 for 1 if it is a ring (whether it fits or not), else 0", GridBoundaries::wayRings);
        s.test("17", "Returns the number; BAD; NONE if the edge is not drawn.", GridBoundaries::wayAnswers);
    }

    private static void tellNumbers(Sentences s) {
        s.test("22", "- what: 0 for the width, 1 for the height,", GridBoundaries::widthAndHeight);
        s.test("22", "2 for the number of edges, 3 for that of open ones, 4 for that of drawn ones,", GridBoundaries::edgesCounted);
        s.test("22", "5 for the number of cells with counts,", GridBoundaries::cellsCounted);
        s.test("22", "6 to 13 for how often deductions of the rules 0 to 7 were made by deduce() and deduceAll(),",
                GridBoundaries::deductionsCounted);
        s.test("22", "14 for the number of states in the history,", GridBoundaries::statesCounted);
        s.test("22", "15 for the length of the text", GridBoundaries::lettersCounted);
        s.test("22", "Returns the number; BAD.", GridBoundaries::countAnswers);
    }

    private static RingPuzzle marked(String text, String marks) {
        return Puzzles.with(Puzzles.of(text), marks);
    }

    /** A puzzle without counts. */
    private static RingPuzzle sized(int width, int height) {
        return Puzzles.of(("/" + ".".repeat(width)).repeat(height).substring(1));
    }

    private static List<Integer> edgesOf(RingPuzzle x, boolean corner, int number) {
        List<Integer> edges = new ArrayList<>();
        for (int i = 0; i < 5 && x.edgeAt(corner, number, i) >= 0; i++) {
            edges.add(x.edgeAt(corner, number, i));
        }
        return edges;
    }

    private static List<Integer> placesOf(RingPuzzle x, boolean corner, int many, int edge) {
        List<Integer> places = new ArrayList<>();
        for (int number = 0; number < many; number++) {
            if (edgesOf(x, corner, number).contains(edge)) {
                places.add(number);
            }
        }
        return places;
    }

    private static void newObject(Check check) {
        RingPuzzle x = new RingPuzzle();
        check.due("count(15)", x.count(15), 0);
        check.due("fault(), at once", x.fault(), 0);
        check.due("setPuzzle() of the empty text", x.setPuzzle(), STATE);
        check.due("clearText()", x.clearText(), 0);
        check.due("undo() of the empty history", x.undo(), STATE);
        check.due("wipe() of nothing", x.wipe(), 0);
        for (int what = 6; what <= 13; what++) {
            check.due("count(" + what + ")", x.count(what), 0);
        }
    }

    private static void sizes(Check check) {
        for (int height = 1; height <= 4; height++) {
            for (int width = 1; width <= 4; width++) {
                RingPuzzle x = sized(width, height);
                check.due("count(0) of " + width + " times " + height, x.count(0), width);
                check.due("count(1) of " + width + " times " + height, x.count(1), height);
            }
        }
        for (String text : new String[] {"", ".....", "./././././", "...../.....", "/"}) {
            RingPuzzle x = new RingPuzzle();
            Puzzles.typeAll(x, text);
            check.due("setPuzzle() of \"" + text + "\"", x.setPuzzle(), STATE);
            check.due("count(0) behind it", x.count(0), 3);
            check.due("count(1) behind it", x.count(1), 3);
        }
    }

    private static void cellNumbers(Check check) {
        RingPuzzle x = Puzzles.of("012/3.0");
        int[] counts = {0, 1, 2, 3, NONE, 0};
        for (int r = 0; r < 2; r++) {
            for (int c = 0; c < 3; c++) {
                check.due("countOf() in row " + r + " and column " + c, x.countOf(r * 3 + c), counts[r * 3 + c]);
            }
        }
        check.due("the first number", Puzzles.of("3./..").countOf(0), 3);
        check.due("the last number of the first row", Puzzles.of("...3/....").countOf(3), 3);
        check.due("the first number of the second row", Puzzles.of("..../3...").countOf(4), 3);
        check.due("the last number", Puzzles.of("..../..../..../...3").countOf(15), 3);
        check.due("no number behind the last one", x.countOf(6), BAD);
        check.due("no number ahead of the first one", x.countOf(-1), BAD);
    }

    private static void cellCounts(Check check) {
        RingPuzzle x = Puzzles.of("03/.1");
        int[] counts = {0, 3, NONE, 1};
        for (int cell = 0; cell < 4; cell++) {
            check.due("countOf(" + cell + ")", x.countOf(cell), counts[cell]);
        }
        for (int count = NONE; count <= 3; count++) {
            x.setCount(2, count);
            check.due("countOf(2) behind setCount(2, " + count + ")", x.countOf(2), count);
        }
        check.due("setCount(2, 4)", x.setCount(2, 4), BAD);
        check.due("setCount(2, -2)", x.setCount(2, -2), BAD);
        check.due("countOf(2) behind them", x.countOf(2), 3);
        x.clearText();
        x.type('4');
        check.due("setPuzzle() of 4", x.setPuzzle(), STATE);
    }

    private static void cornerNumbers(Check check) {
        for (int height = 1; height <= 4; height++) {
            for (int width = 1; width <= 4; width++) {
                RingPuzzle x = sized(width, height);
                int corners = (height + 1) * (width + 1);
                String size = width + " times " + height;
                check.due("the last corner of " + size, x.edgeAt(true, corners - 1, 0), height * width + width - 1);
                check.due("no corner behind it of " + size, x.edgeAt(true, corners, 0), BAD);
                check.due("the last corner of the first row of " + size, x.edgeAt(true, width, 0), width - 1);
                check.due("the first corner of the second row of " + size, x.edgeAt(true, width + 1, 0), width);
            }
        }
    }

    private static void edgesLead(Check check) {
        for (int[] size : new int[][] {{1, 1}, {4, 1}, {1, 4}, {3, 2}, {2, 3}}) {
            RingPuzzle x = sized(size[0], size[1]);
            List<List<Integer>> at = new ArrayList<>();
            int corners = (size[0] + 1) * (size[1] + 1);
            for (int corner = 0; corner < corners; corner++) {
                at.add(edgesOf(x, true, corner));
            }
            for (int edge = 0; edge < x.count(2); edge++) {
                List<Integer> ends = new ArrayList<>();
                for (int corner = 0; corner < corners; corner++) {
                    if (at.get(corner).contains(edge)) {
                        ends.add(corner);
                    }
                }
                String name = "edge " + edge + " of " + size[0] + " times " + size[1];
                check.due(name + ": corners", ends.size(), 2);
                int columns = size[0] + 1;
                int first = ends.get(0);
                int second = ends.get(1);
                boolean beside = second == first + 1 && first / columns == second / columns;
                check.holds(name + " does not lead from the end of a row to the next one", beside || second == first + columns);
            }
        }
    }

    private static void horizontalEdges(Check check) {
        for (int[] size : new int[][] {{1, 1}, {4, 1}, {1, 4}, {3, 2}, {2, 3}}) {
            int width = size[0];
            int height = size[1];
            for (int r = 0; r <= height; r++) {
                for (int c = 0; c < width; c++) {
                    List<Integer> cells = new ArrayList<>();
                    if (r > 0) {
                        cells.add((r - 1) * width + c);
                    }
                    if (r < height) {
                        cells.add(r * width + c);
                    }
                    List<Integer> found = placesOf(sized(width, height), false, width * height, r * width + c);
                    check.holds("horizontal, " + width + " times " + height + ", row " + r + ", column " + c + ": " + found,
                            found.equals(cells));
                }
            }
        }
    }

    private static void verticalEdges(Check check) {
        for (int[] size : new int[][] {{1, 1}, {4, 1}, {1, 4}, {3, 2}, {2, 3}}) {
            int width = size[0];
            int height = size[1];
            int b = (height + 1) * width;
            for (int r = 0; r < height; r++) {
                for (int c = 0; c <= width; c++) {
                    List<Integer> cells = new ArrayList<>();
                    if (c > 0) {
                        cells.add(r * width + c - 1);
                    }
                    if (c < width) {
                        cells.add(r * width + c);
                    }
                    int edge = b + r * (width + 1) + c;
                    List<Integer> found = placesOf(sized(width, height), false, width * height, edge);
                    check.holds("vertical, " + width + " times " + height + ", row " + r + ", column " + c + ": " + found,
                            found.equals(cells));
                }
            }
        }
        RingPuzzle x = Puzzles.of(WIDE);
        check.due("right of the last column, in the last row", x.edgeAt(false, 15, 3), 39);
        check.due("no edge behind the last one", x.edge(40), BAD);
    }

    private static void edgeMarks(Check check) {
        RingPuzzle x = new RingPuzzle();
        for (int mark = 0; mark <= 2; mark++) {
            x.mark(7, mark);
            check.due("edge(7)", x.edge(7), mark);
        }
        check.due("mark(7, 3)", x.mark(7, 3), BAD);
        check.due("mark(7, -1)", x.mark(7, -1), BAD);
        check.due("edge(7) behind them", x.edge(7), 2);
    }

    private static void firstGrid(Check check) {
        RingPuzzle x = new RingPuzzle();
        check.due("the width", x.count(0), 3);
        check.due("the height", x.count(1), 3);
        for (int cell = 0; cell < 9; cell++) {
            check.due("countOf(" + cell + ")", x.countOf(cell), NONE);
        }
        check.due("countOf(9)", x.countOf(9), BAD);
        for (int edge = 0; edge < 24; edge++) {
            check.due("edge(" + edge + ")", x.edge(edge), 0);
        }
        check.due("edge(24)", x.edge(24), BAD);
        check.due("the last corner", x.edgeAt(true, 15, 1), 23);
        check.due("no corner behind it", x.edgeAt(true, 16, 0), BAD);
        check.due("open edges", x.count(3), 24);
    }

    /** All marks of some edges: the digits of a number by three. */
    private static String marksOf(int number, int... edges) {
        StringBuilder marks = new StringBuilder();
        int rest = number;
        for (int edge : edges) {
            marks.append(rest % 3 == 0 ? "" : (rest % 3 == 1 ? "d " : "o ") + edge + " ");
            rest /= 3;
        }
        return marks.toString().trim();
    }

    private static int marksIn(int number, int many, int mark) {
        int rest = number;
        int found = 0;
        for (int i = 0; i < many; i++) {
            found += rest % 3 == mark ? 1 : 0;
            rest /= 3;
        }
        return found;
    }

    private static void cellFits(Check check) {
        for (int number = 0; number < 81; number++) {
            int drawn = marksIn(number, 4, 1);
            int open = marksIn(number, 4, 0);
            String marks = marksOf(number, 0, 1, 2, 3);
            for (int count = 0; count <= 3; count++) {
                boolean fits = drawn <= count && drawn + open >= count;
                check.due("misfit(0) of " + count + " with " + marks, marked("" + count, marks).misfit(0), fits ? NONE : 0);
            }
            check.due("misfit(0) without a count, with " + marks, marked(".", marks).misfit(0), NONE);
        }
    }

    private static void cornerFits(Check check) {
        int[][] edgesAt = {{0, 12}, {0, 1, 13}, {3, 4, 13, 17}};
        int[] corners = {0, 1, 5};
        for (int i = 0; i < corners.length; i++) {
            int many = edgesAt[i].length;
            for (int number = 0; number < Math.pow(3, many); number++) {
                int drawn = marksIn(number, many, 1);
                boolean fits = drawn <= 2 && (drawn != 1 || marksIn(number, many, 0) > 0);
                String marks = marksOf(number, edgesAt[i]);
                check.due("misfit(1) with " + marks, marked(EMPTY, marks).misfit(1), fits ? NONE : corners[i]);
            }
        }
    }

    private static void rings(Check check) {
        check.due("three of the four edges around a cell", marked(".", "d 0 1 2").way(0, 2), 0);
        check.due("the least ring", marked(".", "d 0 1 2 3").way(0, 2), 1);
        check.due("the longest ring", marked(WIDE, LONGEST).way(0, 2), 1);
        check.due("the longest ring without an edge", Puzzles.with(marked(WIDE, LONGEST), "o 13").way(0, 2), 0);
        check.due("a corner with three drawn edges", marked("..", "d 0 2 4 5 1").way(0, 2), 0);
        check.due("a corner with four drawn edges", marked("../..", "d 0 2 6 7 3 5 10 11").way(0, 2), 0);
        check.due("two rings, the first", marked("...", "d 0 3 6 7 2 5 8 9").way(0, 2), 1);
        check.due("two rings, the second", marked("...", "d 0 3 6 7 2 5 8 9").way(9, 2), 1);
        check.due("one edge", marked(".", "d 3").way(3, 2), 0);
    }

    private static void ringAndEdge(Check check) {
        String ring = "d 4 7 17 18";
        check.due("no other edge", marked(EMPTY, ring).misfit(2), NONE);
        for (int edge : new int[] {0, 1, 11, 12, 23}) {
            check.due("edge " + edge + " does not belong to it", marked(EMPTY, ring + " " + edge).misfit(2), 4);
            check.due("edge " + edge + " is ruled out", marked(EMPTY, ring + " o " + edge).misfit(2), NONE);
        }
        check.due("another ring does not belong to it", marked("...", "d 0 3 6 7 2 5 8 9").misfit(2), 0);
    }

    private static void ringAndCount(Check check) {
        String ring = "d 4 7 17 18";
        for (int count = 0; count <= 3; count++) {
            check.due("beside the ring, a count of " + count, marked("." + count + "./.../...", ring).misfit(2), count == 1 ? NONE : 4);
            check.due("far from the ring, a count of " + count, marked(".../.../.." + count, ring).misfit(2), count == 0 ? NONE : 4);
            check.due("inside of the ring, a count of " + count, marked(".../." + count + "./...", ring).misfit(2), 4);
        }
        check.due("no count", marked(EMPTY, ring).misfit(2), NONE);
    }

    private static void gridFits(Check check) {
        check.due("nothing drawn", new RingPuzzle().misfit(3), 1);
        check.due("all ruled out", marked(".", "o 0 1 2 3").misfit(3), 1);
        check.due("only a cell does not", marked("...3", "o 3 7").misfit(3), 0);
        check.due("only a corner does not", marked("../..", "d 2 3 7").misfit(3), 0);
        check.due("only a ring does not", marked(".../.../..1", "d 4 7 17 18").misfit(3), 0);
        check.due("none of them does", marked(".../.../..0", "d 0 3 12 13 7 8 22").misfit(3), 0);
        check.due("all of them do", marked(".../.../..0", "d 4 7 17 18").misfit(3), 1);
    }

    private static void gridSolved(Check check) {
        check.due("it fits, and there is a ring", marked(".", "d 0 1 2 3").misfit(4), 1);
        check.due("it fits, and there is none", new RingPuzzle().misfit(4), 0);
        check.due("it fits, nothing is open, and there is none", marked("0", "o 0 1 2 3").misfit(4), 0);
        check.due("it fits, and an edge of the ring is open", marked(".", "d 0 1 2").misfit(4), 0);
        check.due("the ring does not fit", marked("..2", "d 0 3 6 7").misfit(4), 0);
        check.due("a cell does not fit", marked("3", "d 0 1 2 3").misfit(4), 0);
        check.due("a corner does not fit, with a ring", marked(EMPTY, "d 4 7 17 18 0 o 12").misfit(4), 0);
    }

    private static void openEdgesDoNotMatter(Check check) {
        RingPuzzle x = marked(EMPTY, "d 4 7 17 18");
        check.due("misfit(4) with 20 open edges", x.misfit(4), 1);
        x.mark(0, 2);
        check.due("misfit(4) with 19 of them", x.misfit(4), 1);
        check.due("misfit(4) with open edges around counts", marked("010/1.1/010", "d 4 7 17 18").misfit(4), 1);
        check.due("misfit(4) without open edges", marked(".", "d 0 1 2 3").misfit(4), 1);
    }

    private static void countOfCell(Check check) {
        for (String text : new String[] {"1", "1111", "1/1/1/1", "1111/1111/1111/1111"}) {
            RingPuzzle x = Puzzles.of(text);
            int cells = text.replace("/", "").length();
            check.due("the first cell of " + text, x.countOf(0), 1);
            check.due("the last cell of " + text, x.countOf(cells - 1), 1);
            for (int cell : new int[] {-1, cells, cells + 1, 64, LEAST, GREATEST}) {
                check.due("countOf(" + cell + ") of " + text, x.countOf(cell), BAD);
            }
        }
    }

    private static void countOfAnswers(Check check) {
        RingPuzzle x = Puzzles.of("03/..");
        check.due("the least count", x.countOf(0), 0);
        check.due("the greatest count", x.countOf(1), 3);
        check.due("no count", x.countOf(2), NONE);
        check.due("no such cell", x.countOf(4), BAD);
        x.setCount(1, NONE);
        check.due("a count that was taken away", x.countOf(1), NONE);
    }

    private static void edgeNumbers(Check check) {
        for (int[] size : new int[][] {{1, 1}, {4, 1}, {1, 4}, {4, 4}}) {
            RingPuzzle x = sized(size[0], size[1]);
            int edges = x.count(2);
            check.due("the first edge", x.edge(0), 0);
            x.mark(edges - 1, 1);
            check.due("the last edge, " + (edges - 1), x.edge(edges - 1), 1);
            for (int edge : new int[] {-1, edges, edges + 1, 64, 64 + edges - 1, LEAST, GREATEST}) {
                check.due("edge(" + edge + ") of " + edges, x.edge(edge), BAD);
            }
        }
    }

    private static void edgeAnswers(Check check) {
        RingPuzzle x = marked(WIDE, "d 0 39 o 1 38");
        check.due("open", x.edge(2), 0);
        check.due("drawn", x.edge(0), 1);
        check.due("ruled out", x.edge(1), 2);
        check.due("the last one, drawn", x.edge(39), 1);
        check.due("the one ahead of it, ruled out", x.edge(38), 2);
        check.due("no such edge", x.edge(40), BAD);
    }

    private static void cornerOrCell(Check check) {
        RingPuzzle x = Puzzles.of("../..");
        check.due("corner 3 has the second edge", x.edgeAt(true, 3, 1), 6);
        check.due("cell 3 has the second edge", x.edgeAt(false, 3, 1), 5);
        check.due("there is a corner 4", x.edgeAt(true, 4, 0), 2);
        check.due("there is no cell 4", x.edgeAt(false, 4, 0), BAD);
        check.due("there is a corner 8", x.edgeAt(true, 8, 0), 5);
        check.due("there is no corner 9", x.edgeAt(true, 9, 0), BAD);
    }

    private static void placeNumbers(Check check) {
        for (int[] size : new int[][] {{1, 1}, {4, 1}, {1, 4}, {4, 4}}) {
            RingPuzzle x = sized(size[0], size[1]);
            int cells = size[0] * size[1];
            int corners = (size[0] + 1) * (size[1] + 1);
            check.due("the first cell", x.edgeAt(false, 0, 0), 0);
            check.due("the last cell", x.edgeAt(false, cells - 1, 3), x.count(2) - 1);
            check.due("the first corner", x.edgeAt(true, 0, 0), 0);
            check.due("the last corner", x.edgeAt(true, corners - 1, 1), x.count(2) - 1);
            for (int wrong : new int[] {-1, LEAST, GREATEST}) {
                check.due("edgeAt(false, " + wrong + ", 0)", x.edgeAt(false, wrong, 0), BAD);
                check.due("edgeAt(true, " + wrong + ", 0)", x.edgeAt(true, wrong, 0), BAD);
            }
            check.due("no cell behind the last one", x.edgeAt(false, cells, 0), BAD);
            check.due("no corner behind the last one", x.edgeAt(true, corners, 0), BAD);
        }
    }

    private static void placeIndexes(Check check) {
        RingPuzzle x = Puzzles.of("../..");
        int[] around = {3, 5, 10, 11};
        int[] inside = {2, 3, 7, 10};
        int[] aside = {2, 6, 9};
        int[] outside = {5, 11};
        for (int i = 0; i < 4; i++) {
            check.due("the last cell, index " + i, x.edgeAt(false, 3, i), around[i]);
            check.due("the corner inside, index " + i, x.edgeAt(true, 4, i), inside[i]);
            check.due("a corner at the side, index " + i, x.edgeAt(true, 3, i), i < 3 ? aside[i] : NONE);
            check.due("the last corner, index " + i, x.edgeAt(true, 8, i), i < 2 ? outside[i] : NONE);
        }
        check.due("index -1", x.edgeAt(true, 8, -1), BAD);
    }

    private static void edgeAtAnswers(Check check) {
        RingPuzzle x = new RingPuzzle();
        check.due("i is negative", x.edgeAt(false, 0, -1), BAD);
        check.due("i is the least number", x.edgeAt(true, 0, LEAST), BAD);
        check.due("four around a cell", x.edgeAt(false, 8, 3), 23);
        check.due("not five around a cell", x.edgeAt(false, 8, 4), NONE);
        check.due("two at a corner outside", x.edgeAt(true, 0, 1), 12);
        check.due("not three at a corner outside", x.edgeAt(true, 0, 2), NONE);
        check.due("three at a corner aside", x.edgeAt(true, 1, 2), 13);
        check.due("not four at a corner aside", x.edgeAt(true, 1, 3), NONE);
        check.due("four at a corner inside", x.edgeAt(true, 5, 3), 17);
        check.due("not five at a corner inside", x.edgeAt(true, 5, 4), NONE);
        check.due("not so many as the greatest number", x.edgeAt(false, 0, GREATEST), NONE);
        check.due("no such cell, and not so many", x.edgeAt(false, 9, 4), BAD);
        check.due("no such corner, and not so many", x.edgeAt(true, 16, 4), BAD);
        check.due("no such cell, and i is negative", x.edgeAt(false, 9, -1), BAD);
    }

    private static void firstCell(Check check) {
        check.due("only the first one", marked("0...", "d 0").misfit(0), 0);
        check.due("only the last one", marked(".../.../..0", "d 11").misfit(0), 8);
        check.due("two of them", marked("0../.../..0", "d 11 0").misfit(0), 0);
        check.due("two of them, not the first one", marked("2../0../..0", "d 11 3").misfit(0), 3);
        check.due("the last of 16", marked("..../..../..../...0", "d 39").misfit(0), 15);
        check.due("none", marked("0...", "d 12").misfit(0), NONE);
    }

    private static void firstCorner(Check check) {
        check.due("only the first one", marked(EMPTY, "d 0 o 12").misfit(1), 0);
        check.due("only the last one", marked(EMPTY, "d 11 o 23").misfit(1), 15);
        check.due("two of them", marked(EMPTY, "d 11 0 o 23 12").misfit(1), 0);
        check.due("both ends of one edge", marked(".", "d 1 o 2 3").misfit(1), 2);
        check.due("the last of 25", marked(WIDE, "d 19 o 39").misfit(1), 24);
        check.due("none", marked(EMPTY, "d 0 11").misfit(1), NONE);
    }

    private static void leastOfRings(Check check) {
        check.due("the least edge of a ring", marked(".../.../...", "d 4 7 17 18 23").misfit(2), 4);
        check.due("not a lesser one that is no ring's", marked(".../.../...", "d 4 7 17 18 0").misfit(2), 4);
        check.due("of two rings", marked("...", "d 0 3 6 7 2 5 8 9").misfit(2), 0);
        check.due("of two rings, the later one being drawn first", marked("...", "d 9 8 5 2 7 6 3 0").misfit(2), 0);
        check.due("of three rings", marked("..../..../..../....", "d 2 6 22 23 8 12 30 31 11 15 33 34").misfit(2), 2);
        check.due("of the last cell", marked("..../..../..../...2", "d 15 19 38 39").misfit(2), 15);
        check.due("of the longest ring", marked("2.../..../..../....", LONGEST).misfit(2), 0);
        check.due("none that does not fit", marked(EMPTY, "d 4 7 17 18").misfit(2), NONE);
    }

    private static void fitsIsOneOrZero(Check check) {
        RingPuzzle x = Puzzles.of("1");
        check.due("fewer drawn than the count", x.misfit(3), 1);
        x.mark(0, 1);
        check.due("as many drawn as the count", x.misfit(3), 1);
        x.mark(2, 1);
        check.due("more drawn than the count", x.misfit(3), 0);
        x.undo();
        check.due("behind undo()", x.misfit(3), 1);
    }

    private static void solvedIsOneOrZero(Check check) {
        RingPuzzle x = marked(".", "d 0 1 2");
        check.due("an edge too few", x.misfit(4), 0);
        x.mark(3, 1);
        check.due("the ring", x.misfit(4), 1);
        x.setCount(0, 3);
        check.due("the ring does not fit", x.misfit(4), 0);
        x.setCount(0, NONE);
        check.due("it fits again", x.misfit(4), 1);
        x.mark(3, 2);
        check.due("no ring", x.misfit(4), 0);
    }

    private static void misfitAnswers(Check check) {
        RingPuzzle x = new RingPuzzle();
        for (int what = 0; what <= 2; what++) {
            check.due("misfit(" + what + ") of nothing", x.misfit(what), NONE);
        }
        check.due("misfit(3)", x.misfit(3), 1);
        check.due("misfit(4)", x.misfit(4), 0);
        for (int what : new int[] {-1, 5, 256, LEAST, GREATEST}) {
            check.due("misfit(" + what + ")", x.misfit(what), BAD);
        }
    }

    private static void waysEnd(Check check) {
        check.due("it does not go on at an open edge", marked("...", "d 0 2").way(0, 0), 1);
        check.due("nor at one that is ruled out", marked("...", "d 0 2 o 1").way(0, 0), 1);
        check.due("it goes on at a drawn one", marked("...", "d 0 2 1").way(0, 0), 3);
        check.due("to both sides", marked("...", "d 0 2 1").way(1, 0), 3);
        check.due("at a corner with four, to all of them", marked("../..", "d 2 3 7 10").way(7, 0), 4);
        check.due("ways that touch at no corner", marked("../..", "d 0 6 5 11").way(11, 0), 2);
        check.due("not from the end of a row to the next one", marked("../..", "d 1 2").way(1, 0), 1);
    }

    private static void wayEdges(Check check) {
        for (int[] size : new int[][] {{1, 1}, {4, 1}, {1, 4}, {4, 4}}) {
            RingPuzzle x = sized(size[0], size[1]);
            int edges = x.count(2);
            x.mark(0, 1);
            check.due("the first edge", x.way(0, 1), 0);
            check.due("the last edge, open", x.way(edges - 1, 1), NONE);
            x.mark(0, 0);
            x.mark(edges - 1, 1);
            check.due("the first edge, open", x.way(0, 1), NONE);
            check.due("the last edge", x.way(edges - 1, 1), edges - 1);
            for (int edge : new int[] {-1, edges, 64, LEAST, GREATEST}) {
                check.due("way(" + edge + ", 0) of " + edges, x.way(edge, 0), BAD);
            }
        }
    }

    private static void wayLengths(Check check) {
        check.due("one edge", marked(WIDE, "d 39").way(39, 0), 1);
        check.due("the longest ring", marked(WIDE, LONGEST).way(39, 0), 24);
        RingPuzzle x = Puzzles.of(WIDE);
        for (int edge = 0; edge < 40; edge++) {
            x.mark(edge, 1);
        }
        check.due("all edges", x.way(39, 0), 40);
        x.mark(20, 0);
        check.due("all but one", x.way(39, 0), 39);
    }

    private static void wayLeast(Check check) {
        check.due("itself", marked(WIDE, "d 39 0").way(39, 1), 39);
        check.due("of the longest ring", marked(WIDE, LONGEST).way(39, 1), 0);
        check.due("a lesser one beside it", marked(WIDE, "d 19 39").way(39, 1), 19);
        check.due("not a lesser one of another way", marked("...", "d 0 2 5").way(5, 1), 5);
    }

    private static void wayRings(Check check) {
        check.due("a ring that fits", marked(".", "d 0 1 2 3").way(2, 2), 1);
        check.due("a ring around too small a count", marked("3", "d 0 1 2 3").way(2, 2), 1);
        check.due("a ring beside which an edge is drawn", marked("...", "d 0 3 6 7 2").way(3, 2), 1);
        check.due("the edge beside it", marked("...", "d 0 3 6 7 2").way(2, 2), 0);
        check.due("a ring with a tail", marked("...", "d 0 3 6 7 1").way(0, 2), 0);
        check.due("the tail", marked("...", "d 0 3 6 7 1").way(1, 2), 0);
        check.due("an edge too few", marked(".", "d 0 1 2").way(2, 2), 0);
    }

    private static void wayAnswers(Check check) {
        RingPuzzle x = marked("..", "d 0 o 1");
        for (int what = 0; what <= 2; what++) {
            check.due("way(1, " + what + "), ruled out", x.way(1, what), NONE);
            check.due("way(2, " + what + "), open", x.way(2, what), NONE);
            check.due("way(7, " + what + "), no such edge", x.way(7, what), BAD);
        }
        for (int what : new int[] {-1, 3, LEAST, GREATEST}) {
            check.due("way(0, " + what + "), drawn", x.way(0, what), BAD);
            check.due("way(2, " + what + "), open", x.way(2, what), BAD);
            check.due("way(-1, " + what + "), no such edge", x.way(-1, what), BAD);
        }
    }

    private static void widthAndHeight(Check check) {
        for (int[] size : new int[][] {{1, 1}, {4, 1}, {1, 4}, {4, 4}, {2, 3}}) {
            RingPuzzle x = sized(size[0], size[1]);
            check.due("count(0)", x.count(0), size[0]);
            check.due("count(1)", x.count(1), size[1]);
            x.undo();
            check.due("count(0) behind undo()", x.count(0), 3);
            check.due("count(1) behind undo()", x.count(1), 3);
        }
    }

    private static void edgesCounted(Check check) {
        for (int[] size : new int[][] {{1, 1, 4}, {4, 1, 13}, {1, 4, 13}, {4, 4, 40}}) {
            RingPuzzle x = sized(size[0], size[1]);
            int edges = size[2];
            check.due("count(2)", x.count(2), edges);
            check.due("count(3), all open", x.count(3), edges);
            check.due("count(4), none drawn", x.count(4), 0);
            for (int edge = 0; edge < edges; edge++) {
                x.mark(edge, 2);
            }
            check.due("count(3), none open", x.count(3), 0);
            check.due("count(4), all ruled out", x.count(4), 0);
            for (int edge = 0; edge < edges; edge++) {
                x.mark(edge, 1);
            }
            check.due("count(2), still", x.count(2), edges);
            check.due("count(3), still", x.count(3), 0);
            check.due("count(4), all drawn", x.count(4), edges);
        }
    }

    private static void cellsCounted(Check check) {
        check.due("none", Puzzles.of(WIDE).count(5), 0);
        check.due("all, of 0 too", Puzzles.of("0000/1111/2222/3333").count(5), 16);
        check.due("all of one", Puzzles.of("0").count(5), 1);
        RingPuzzle x = Puzzles.of("0.");
        x.setCount(1, 0);
        check.due("one more", x.count(5), 2);
        x.setCount(1, 3);
        check.due("another count is none more", x.count(5), 2);
        x.setCount(0, NONE);
        x.setCount(1, NONE);
        check.due("none more", x.count(5), 0);
    }

    private static void deductionsCounted(Check check) {
        RingPuzzle x = new RingPuzzle();
        check.due("deduce() of nothing", x.deduce(), NONE);
        check.holds("none is counted: " + Puzzles.made(x), Puzzles.made(x).equals("0 0 0 0 0 0 0 0"));
        x = Puzzles.of("3");
        x.deduce();
        check.holds("one by deduce(): " + Puzzles.made(x), Puzzles.made(x).equals("0 0 0 0 0 0 1 0"));
        x.deduceAll(7);
        check.holds("others by deduceAll(): " + Puzzles.made(x), Puzzles.made(x).equals("0 2 0 0 0 0 1 0"));
        x.deduce();
        check.holds("none by a call that is refused: " + Puzzles.made(x), Puzzles.made(x).equals("0 2 0 0 0 0 1 0"));
        x = marked(".2", "d 0 2 4");
        check.due("deduce() by rule 5", x.deduce(), 5);
        check.due("count(11)", x.count(11), 1);
        x = Puzzles.of("33");
        check.due("deduce() by rule 7", x.deduce(), 7);
        check.due("count(13)", x.count(13), 1);
        x = Puzzles.of("0000/0000/0000/0000");
        check.due("deduceAll(0)", x.deduceAll(0), 40);
        check.due("count(6), all edges", x.count(6), 40);
        x.grade();
        x.hint(0);
        x.solutions(2);
        check.due("count(6), none more by what is told", x.count(6), 40);
        x.wipe();
        check.due("count(6), from the beginning", x.count(6), 0);
    }

    private static void statesCounted(Check check) {
        RingPuzzle x = new RingPuzzle();
        check.due("none", x.count(14), 0);
        for (int changes = 1; changes <= 20; changes++) {
            x.wipe();
            check.due("behind " + changes + " changes", x.count(14), Math.min(changes, 8));
        }
        for (int left = 7; left >= 0; left--) {
            x.undo();
            check.due("count(14)", x.count(14), left);
        }
        x.undo();
        check.due("none less", x.count(14), 0);
    }

    private static void lettersCounted(Check check) {
        RingPuzzle x = new RingPuzzle();
        for (int letters = 0; letters <= 45; letters++) {
            check.due("behind " + letters + " letters", x.count(15), Math.min(letters, 40));
            x.type(letters % 2 == 0 ? ' ' : '/');
        }
        x.type(128);
        check.due("behind a letter that is none", x.count(15), 40);
        x.clearText();
        check.due("behind clearText()", x.count(15), 0);
    }

    private static void countAnswers(Check check) {
        RingPuzzle x = new RingPuzzle();
        check.due("the first number", x.count(0), 3);
        check.due("the last number", x.count(15), 0);
        for (int what : new int[] {-1, 16, 17, 256, LEAST, GREATEST}) {
            check.due("count(" + what + ")", x.count(what), BAD);
        }
    }
}
