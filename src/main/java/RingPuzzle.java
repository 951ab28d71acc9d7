/**
 * A puzzle of one ring: edges of a small grid are drawn such that they form one closed ring and
 * each count is the number of drawn edges around its cell. Sets of edges, cells and corners are
 * kept as bits of numbers, so that a call makes no objects.
 */
public final class RingPuzzle {
    public static final int BAD = -2, STATE = -3, FULL = -4;
    public static final int NONE = -1;

    private static final int OPEN = 0, DRAWN = 1, OUT = 2;
    private static final int MOST_SIDE = 4, MOST_COUNT = 3;
    private static final int MOST_CELLS = 16, MOST_CORNERS = 25, MOST_EDGES = 40;
    private static final int RULES = 8, PLACE_RULES = 5, CELL_RULES = 2;
    private static final int LAST_PLACE_RULE = 4, CLOSING_RULE = 5, DRAWN_TRIAL_RULE = 6, LAST_RULE = 7;
    private static final int MOST_LETTERS = 40, MOST_LETTER = 127;
    private static final int MOST_STATES = 8;
    private static final int MOST_NODES = 200, MOST_SOLUTIONS = 20;
    private static final int FIRST_MADE = 6, LAST_NUMBER = 15;
    private static final int LAST_MISFIT = 4, LAST_HINT = 3, LAST_WAY = 2;

    /** What the edge of a deduction becomes, and the grade of it, by its rule. */
    private static final int[] BECOMES = {2, 1, 2, 2, 1, 2, 2, 1};
    private static final int[] GRADES = {1, 1, 1, 2, 2, 3, 4, 4};

    private final Grid grid;
    private final Board board;
    private final Solver solver;
    private final Search search;
    private final History history;
    private final Text text;
    private final int[] made;

    public RingPuzzle() {
        Grid laid = new Grid();
        laid.lay(3, 3);
        Board empty = new Board(laid);
        empty.begin(0L, laid.allEdges());
        grid = laid;
        board = empty;
        solver = new Solver(laid);
        search = new Search(laid);
        history = new History();
        text = new Text();
        made = new int[RULES];
    }

    // ---- text

    public int type(int letter) {
        if (letter < 0 || letter > MOST_LETTER) {
            return BAD;
        }
        return text.append(letter);
    }

    public int clearText() {
        int before = text.length;
        text.length = 0;
        return before;
    }

    public int fault() {
        return text.read();
    }

    // ---- changes

    public int setPuzzle() {
        if (text.read() != NONE) {
            return STATE;
        }
        history.keep(grid, board, made);
        grid.lay(text.columns, text.rows);
        for (int cell = 0; cell < grid.cells; cell++) {
            grid.counts[cell] = text.counts[cell];
        }
        forgetMade();
        board.begin(0L, grid.allEdges());
        return grid.edges;
    }

    public int setCount(int cell, int count) {
        if (!grid.hasCell(cell) || count < NONE || count > MOST_COUNT) {
            return BAD;
        }
        history.keep(grid, board, made);
        int before = grid.counts[cell];
        grid.counts[cell] = count;
        board.begin(board.drawn, board.open);
        return before;
    }

    public int mark(int edge, int mark) {
        if (!grid.hasEdge(edge) || mark < OPEN || mark > OUT) {
            return BAD;
        }
        history.keep(grid, board, made);
        int before = board.markOf(edge);
        long bit = 1L << edge;
        long drawn = mark == DRAWN ? board.drawn | bit : board.drawn & ~bit;
        long open = mark == OPEN ? board.open | bit : board.open & ~bit;
        board.begin(drawn, open);
        return before;
    }

    public int wipe() {
        history.keep(grid, board, made);
        int before = grid.edges - Long.bitCount(board.open);
        forgetMade();
        board.begin(0L, grid.allEdges());
        return before;
    }

    public int deduce() {
        if (!board.fits()) {
            return STATE;
        }
        history.keep(grid, board, made);
        if (!solver.findNext(board, LAST_RULE)) {
            return NONE;
        }
        makeFound();
        return board.foundRule;
    }

    public int deduceAll(int most) {
        if (most < 0 || most > LAST_RULE) {
            return BAD;
        }
        if (!board.fits()) {
            return STATE;
        }
        history.keep(grid, board, made);
        int times = 0;
        while (times < MOST_EDGES && solver.findNext(board, most)) {
            makeFound();
            times++;
        }
        return times;
    }

    // ---- history

    public int undo() {
        if (history.size == 0) {
            return STATE;
        }
        history.restore(grid, board, made);
        return history.size;
    }

    // ---- what is told

    public int countOf(int cell) {
        return grid.hasCell(cell) ? grid.counts[cell] : BAD;
    }

    public int edge(int edge) {
        return grid.hasEdge(edge) ? board.markOf(edge) : BAD;
    }

    public int edgeAt(boolean corner, int number, int i) {
        boolean exists = corner ? grid.hasCorner(number) : grid.hasCell(number);
        if (!exists || i < 0) {
            return BAD;
        }
        long rest = corner ? grid.meeting[number] : grid.around[number];
        // A place has four edges at most, so a greater index needs no more steps.
        for (int skipped = 0; skipped < i && rest != 0; skipped++) {
            rest &= rest - 1;
        }
        return leastOf(rest);
    }

    public int misfit(int what) {
        switch (what) {
            case 0:
                return leastOf(board.badCells);
            case 1:
                return leastOf(board.badCorners);
            case 2:
                return leastOf(board.badRing);
            case 3:
                return board.fits() ? 1 : 0;
            case LAST_MISFIT:
                return board.finished() ? 1 : 0;
            default:
                return BAD;
        }
    }

    public int hint(int what) {
        if (what < 0 || what > LAST_HINT) {
            return BAD;
        }
        if (!board.fits()) {
            return STATE;
        }
        return solver.findNext(board, LAST_RULE) ? foundPart(what) : NONE;
    }

    public int way(int edge, int what) {
        if (!grid.hasEdge(edge) || what < 0 || what > LAST_WAY) {
            return BAD;
        }
        long way = board.wayOf(1L << edge);
        if (way == 0) {
            return NONE;
        }
        if (what == 0) {
            return Long.bitCount(way);
        }
        if (what == 1) {
            return leastOf(way);
        }
        return board.isRing(way) ? 1 : 0;
    }

    public int solutions(int most) {
        if (most < 1 || most > MOST_SOLUTIONS) {
            return BAD;
        }
        search.run(board, most);
        return search.found;
    }

    public int nodes(int most) {
        if (most < 1 || most > MOST_SOLUTIONS) {
            return BAD;
        }
        search.run(board, most);
        return search.nodesTold();
    }

    public int solved(int edge) {
        if (!grid.hasEdge(edge)) {
            return BAD;
        }
        search.run(board, 1);
        if (search.found == 0) {
            return NONE;
        }
        return (search.first >>> edge & 1L) == 0 ? 0 : 1;
    }

    public int grade() {
        return solver.greatestGrade();
    }

    // ---- numbers, digest

    public int count(int what) {
        if (what < 0 || what > LAST_NUMBER) {
            return BAD;
        }
        if (what >= FIRST_MADE && what < FIRST_MADE + RULES) {
            return made[what - FIRST_MADE];
        }
        switch (what) {
            case 0:
                return grid.width;
            case 1:
                return grid.height;
            case 2:
                return grid.edges;
            case 3:
                return Long.bitCount(board.open);
            case 4:
                return Long.bitCount(board.drawn);
            case 5:
                return grid.countedCells();
            case 14:
                return history.size;
            default:
                return text.length;
        }
    }

    public long digest() {
        long h = 157;
        for (int what = 0; what <= LAST_NUMBER; what++) {
            h = 31 * h + count(what);
        }
        for (int cell = 0; cell < grid.cells; cell++) {
            h = 31 * h + grid.counts[cell];
        }
        for (int edge = 0; edge < grid.edges; edge++) {
            h = 31 * h + board.markOf(edge);
        }
        for (int what = 0; what <= LAST_MISFIT; what++) {
            h = 31 * h + misfit(what);
        }
        h = addHints(h);
        search.run(board, 2);
        h = 31 * h + search.found;
        h = 31 * h + search.nodesTold();
        h = 31 * h + solver.greatestGrade();
        for (int i = 0; i < text.length; i++) {
            h = 31 * h + text.letters[i];
        }
        return h;
    }

    /** The four hints are told from one look for the next deduction, as a look is dear. */
    private long addHints(long digest) {
        long h = digest;
        boolean fits = board.fits();
        boolean found = fits && solver.findNext(board, LAST_RULE);
        for (int what = 0; what <= LAST_HINT; what++) {
            int told = found ? foundPart(what) : fits ? NONE : STATE;
            h = 31 * h + told;
        }
        return h;
    }

    private int foundPart(int what) {
        switch (what) {
            case 0:
                return board.foundRule;
            case 1:
                return board.foundEdge;
            case 2:
                return becomes(board.foundRule);
            default:
                return board.foundPlace;
        }
    }

    private void makeFound() {
        int rule = board.foundRule;
        if (rule >= 0 && rule < RULES) {
            made[rule]++;
        }
        board.makeFound();
    }

    private void forgetMade() {
        for (int rule = 0; rule < RULES; rule++) {
            made[rule] = 0;
        }
    }

    private static int becomes(int rule) {
        return rule >= 0 && rule < RULES ? BECOMES[rule] : OPEN;
    }

    private static int gradeOf(int rule) {
        return rule >= 0 && rule < RULES ? GRADES[rule] : 0;
    }

    private static int leastOf(long set) {
        return set == 0 ? NONE : Long.bitCount((set & -set) - 1);
    }

    private static int with(int set, int place, boolean in) {
        return in ? set | 1 << place : set & ~(1 << place);
    }

    /** The counts, and which edges, cells and corners are neighbors. */
    private static final class Grid {
        final int[] counts = new int[MOST_CELLS];
        final long[] around = new long[MOST_CELLS];
        final long[] meeting = new long[MOST_CORNERS];
        // Two places for each edge; a cell is NONE where the grid ends.
        final int[] cellsOf = new int[2 * MOST_EDGES];
        final int[] cornersOf = new int[2 * MOST_EDGES];
        int width;
        int height;
        int cells;
        int corners;
        int edges;

        boolean hasCell(int cell) {
            return cell >= 0 && cell < cells;
        }

        boolean hasCorner(int corner) {
            return corner >= 0 && corner < corners;
        }

        boolean hasEdge(int edge) {
            return edge >= 0 && edge < edges;
        }

        long allEdges() {
            return (1L << edges) - 1;
        }

        int countedCells() {
            int counted = 0;
            for (int cell = 0; cell < cells; cell++) {
                if (counts[cell] != NONE) {
                    counted++;
                }
            }
            return counted;
        }

        /** Lays the grid anew, without counts. */
        void lay(int columns, int rows) {
            width = Math.max(1, Math.min(MOST_SIDE, columns));
            height = Math.max(1, Math.min(MOST_SIDE, rows));
            cells = width * height;
            corners = (width + 1) * (height + 1);
            edges = (height + 1) * width + height * (width + 1);
            for (int cell = 0; cell < MOST_CELLS; cell++) {
                counts[cell] = NONE;
                around[cell] = 0;
            }
            for (int corner = 0; corner < MOST_CORNERS; corner++) {
                meeting[corner] = 0;
            }
            for (int row = 0; row <= height; row++) {
                for (int column = 0; column <= width; column++) {
                    layEdgesFrom(row, column);
                }
            }
        }

        /** Lays the edges that lead to the right and down from a corner. */
        private void layEdgesFrom(int row, int column) {
            int corner = row * (width + 1) + column;
            int below = cellAt(row, column);
            if (column < width) {
                layEdge(row * width + column, corner, corner + 1, cellAt(row - 1, column), below);
            }
            if (row < height) {
                int edge = (height + 1) * width + corner;
                layEdge(edge, corner, corner + width + 1, cellAt(row, column - 1), below);
            }
        }

        private int cellAt(int row, int column) {
            boolean inside = row >= 0 && row < height && column >= 0 && column < width;
            return inside ? row * width + column : NONE;
        }

        private void layEdge(int edge, int corner, int nextCorner, int cell, int nextCell) {
            if (!hasEdge(edge) || !hasCorner(corner) || !hasCorner(nextCorner)) {
                return;
            }
            long bit = 1L << edge;
            cornersOf[2 * edge] = corner;
            cornersOf[2 * edge + 1] = nextCorner;
            meeting[corner] |= bit;
            meeting[nextCorner] |= bit;
            cellsOf[2 * edge] = cell;
            cellsOf[2 * edge + 1] = nextCell;
            if (hasCell(cell)) {
                around[cell] |= bit;
            }
            if (hasCell(nextCell)) {
                around[nextCell] |= bit;
            }
        }
    }

    /**
     * The marks of all edges, with what follows from them kept beside: where each rule allows a
     * deduction, and what does not fit. A change looks only at its neighbors again, as trials and
     * the search make very many.
     */
    private static final class Board {
        final Grid grid;
        /** For the rules 0 to 4: the cells or corners at which the rule allows a deduction. */
        final int[] ready = new int[PLACE_RULES];
        long drawn;
        long open;
        int badCells;
        /** Cells with a count around which not as many edges are drawn. */
        int unmetCells;
        int badCorners;
        /** Corners with exactly two drawn edges. */
        int pairedCorners;
        /** The ring that does not fit, of several the one with the least edge, or no edges. */
        long badRing;
        /** Whether there is a ring that fits. */
        boolean goodRing;
        int foundRule = NONE;
        int foundEdge = NONE;
        int foundPlace = NONE;

        Board(Grid grid) {
            this.grid = grid;
        }

        boolean fits() {
            return badCells == 0 && badCorners == 0 && badRing == 0;
        }

        boolean finished() {
            return goodRing && fits();
        }

        int markOf(int edge) {
            if ((drawn >>> edge & 1L) != 0) {
                return DRAWN;
            }
            return (open >>> edge & 1L) != 0 ? OPEN : OUT;
        }

        /** Takes these marks, and looks at all of the grid. */
        void begin(long drawnEdges, long openEdges) {
            drawn = drawnEdges;
            open = openEdges;
            badCells = 0;
            unmetCells = 0;
            badCorners = 0;
            pairedCorners = 0;
            for (int rule = 0; rule < PLACE_RULES; rule++) {
                ready[rule] = 0;
            }
            for (int cell = 0; cell < grid.cells; cell++) {
                lookAtCell(cell);
            }
            for (int corner = 0; corner < grid.corners; corner++) {
                lookAtCorner(corner);
            }
            lookAtRings();
        }

        void copyFrom(Board other) {
            drawn = other.drawn;
            open = other.open;
            badCells = other.badCells;
            unmetCells = other.unmetCells;
            badCorners = other.badCorners;
            pairedCorners = other.pairedCorners;
            badRing = other.badRing;
            goodRing = other.goodRing;
            for (int rule = 0; rule < PLACE_RULES; rule++) {
                ready[rule] = other.ready[rule];
            }
        }

        /**
         * Draws an open edge or rules it out. Only for a grid that fits and is not solved: such a
         * grid has no ring, so a ring behind the change goes through this edge.
         */
        void settleEdge(int edge, int mark) {
            if (!grid.hasEdge(edge)) {
                return;
            }
            long bit = 1L << edge;
            open &= ~bit;
            if (mark == DRAWN) {
                drawn |= bit;
            }
            lookAtCell(grid.cellsOf[2 * edge]);
            lookAtCell(grid.cellsOf[2 * edge + 1]);
            lookAtCorner(grid.cornersOf[2 * edge]);
            lookAtCorner(grid.cornersOf[2 * edge + 1]);
            if (mark == DRAWN) {
                lookAtWay(wayOf(bit));
            }
        }

        private void lookAtCell(int cell) {
            if (!grid.hasCell(cell) || grid.counts[cell] == NONE) {
                return;
            }
            int count = grid.counts[cell];
            int drawnHere = Long.bitCount(grid.around[cell] & drawn);
            int openHere = Long.bitCount(grid.around[cell] & open);
            badCells = with(badCells, cell, drawnHere > count || drawnHere + openHere < count);
            unmetCells = with(unmetCells, cell, drawnHere != count);
            ready[0] = with(ready[0], cell, openHere > 0 && drawnHere == count);
            ready[1] = with(ready[1], cell, openHere > 0 && drawnHere + openHere == count);
        }

        private void lookAtCorner(int corner) {
            if (!grid.hasCorner(corner)) {
                return;
            }
            int drawnHere = Long.bitCount(grid.meeting[corner] & drawn);
            int openHere = Long.bitCount(grid.meeting[corner] & open);
            badCorners = with(badCorners, corner, drawnHere > 2 || drawnHere == 1 && openHere == 0);
            pairedCorners = with(pairedCorners, corner, drawnHere == 2);
            ready[2] = with(ready[2], corner, drawnHere == 2 && openHere > 0);
            ready[3] = with(ready[3], corner, drawnHere == 0 && openHere == 1);
            ready[4] = with(ready[4], corner, drawnHere == 1 && openHere == 1);
        }

        private void lookAtRings() {
            badRing = 0;
            goodRing = false;
            long rest = drawn;
            for (int ways = 0; ways < MOST_EDGES && rest != 0; ways++) {
                long way = wayOf(rest & -rest);
                lookAtWay(way);
                rest &= ~way;
            }
        }

        /** Ways are looked at from the least edge on, so the first bad ring has the least one. */
        private void lookAtWay(long way) {
            if (!isRing(way)) {
                return;
            }
            if (way == drawn && unmetCells == 0) {
                goodRing = true;
            } else if (badRing == 0) {
                badRing = way;
            }
        }

        /** All drawn edges that are joined by corners with the drawn ones of some edges. */
        long wayOf(long some) {
            long way = some & drawn;
            for (int pass = 0; pass < MOST_EDGES; pass++) {
                long before = way;
                for (int corner = 0; corner < grid.corners; corner++) {
                    long here = grid.meeting[corner] & drawn;
                    if ((here & way) != 0) {
                        way |= here;
                    }
                }
                if (way == before) {
                    return way;
                }
            }
            return way;
        }

        boolean isRing(long way) {
            for (int corner = 0; corner < grid.corners; corner++) {
                boolean paired = (pairedCorners >>> corner & 1) != 0;
                if ((grid.meeting[corner] & way) != 0 && !paired) {
                    return false;
                }
            }
            return way != 0;
        }

        /** Finds the deduction by the least of the rules 0 to 4, up to some rule. */
        boolean findAtPlace(int most) {
            if (!fits() || goodRing) {
                return false;
            }
            for (int rule = 0; rule <= most && rule < PLACE_RULES; rule++) {
                int place = leastOf(ready[rule]);
                boolean cell = rule < CELL_RULES;
                if (cell ? grid.hasCell(place) : grid.hasCorner(place)) {
                    long here = cell ? grid.around[place] : grid.meeting[place];
                    found(rule, leastOf(here & open), place);
                    return true;
                }
            }
            return false;
        }

        /**
         * Finds the deduction by rule 5. Behind the rules 0 to 4 only: then no corner of an open
         * edge has two drawn ones, so an edge between joined corners closes a ring.
         */
        boolean findClosing() {
            if (!fits() || goodRing) {
                return false;
            }
            for (int edge = 0; edge < grid.edges; edge++) {
                long bit = 1L << edge;
                long here = drawnAtEnd(edge, 0);
                long there = drawnAtEnd(edge, 1);
                if ((open & bit) == 0 || here == 0 || there == 0) {
                    continue;
                }
                long way = wayOf(here);
                boolean closes = (way & there) != 0;
                if (closes && (way != drawn || !meetsCounts(drawn | bit))) {
                    found(CLOSING_RULE, edge, NONE);
                    return true;
                }
            }
            return false;
        }

        private long drawnAtEnd(int edge, int end) {
            int corner = grid.cornersOf[2 * edge + end];
            return grid.hasCorner(corner) ? grid.meeting[corner] & drawn : 0L;
        }

        private boolean meetsCounts(long lines) {
            for (int cell = 0; cell < grid.cells; cell++) {
                int count = grid.counts[cell];
                if (count != NONE && Long.bitCount(grid.around[cell] & lines) != count) {
                    return false;
                }
            }
            return true;
        }

        void found(int rule, int edge, int place) {
            foundRule = rule;
            foundEdge = edge;
            foundPlace = place;
        }

        void makeFound() {
            settleEdge(foundEdge, becomes(foundRule));
        }

        /** Makes deductions of the rules 0 to 5 until there is none. */
        void settle() {
            for (int times = 0; times < MOST_EDGES; times++) {
                if (!findAtPlace(LAST_PLACE_RULE) && !findClosing()) {
                    return;
                }
                settleEdge(foundEdge, becomes(foundRule));
            }
        }
    }

    /** Deductions by all rules; a board of its own is there for trials, and one for grading. */
    private static final class Solver {
        final Grid grid;
        final Board trial;
        final Board graded;

        Solver(Grid grid) {
            this.grid = grid;
            trial = new Board(grid);
            graded = new Board(grid);
        }

        /** Finds the next deduction of a board, if its rule is not greater than some rule. */
        boolean findNext(Board board, int most) {
            if (board.findAtPlace(most) || most >= CLOSING_RULE && board.findClosing()) {
                return true;
            }
            if (!board.fits() || board.goodRing) {
                return false;
            }
            for (int rule = DRAWN_TRIAL_RULE; rule <= most && rule <= LAST_RULE; rule++) {
                int tried = rule == DRAWN_TRIAL_RULE ? DRAWN : OUT;
                for (int edge = 0; edge < grid.edges; edge++) {
                    if (board.markOf(edge) != OPEN) {
                        continue;
                    }
                    trial.copyFrom(board);
                    trial.settleEdge(edge, tried);
                    trial.settle();
                    if (!trial.fits()) {
                        board.found(rule, edge, NONE);
                        return true;
                    }
                }
            }
            return false;
        }

        int greatestGrade() {
            graded.begin(0L, grid.allEdges());
            int greatest = NONE;
            for (int times = 0; times < MOST_EDGES && findNext(graded, LAST_RULE); times++) {
                greatest = Math.max(greatest, gradeOf(graded.foundRule));
                graded.makeFound();
            }
            return graded.finished() ? greatest : NONE;
        }
    }

    /** The search for solutions; nodes that have not begun wait in rows, the next one last. */
    private static final class Search {
        final Board board;
        // Each edge that is chosen lets one node more wait.
        final long[] drawnOf = new long[MOST_EDGES + 2];
        final long[] openOf = new long[MOST_EDGES + 2];
        int waiting;
        int found;
        int looked;
        long first;
        boolean cutShort;

        Search(Grid grid) {
            board = new Board(grid);
        }

        void run(Board from, int most) {
            waiting = 0;
            found = 0;
            looked = 0;
            first = 0;
            push(from.drawn, from.open);
            for (int node = 0; node < MOST_NODES && waiting > 0 && found < most; node++) {
                looked++;
                waiting--;
                board.begin(drawnOf[waiting], openOf[waiting]);
                board.settle();
                goOn();
            }
            cutShort = waiting > 0 && found < most;
        }

        int nodesTold() {
            return cutShort ? -MOST_NODES : looked;
        }

        private void goOn() {
            if (!board.fits()) {
                return;
            }
            if (board.finished()) {
                if (found == 0) {
                    first = board.drawn;
                }
                found++;
                return;
            }
            long edge = board.open & -board.open;
            if (edge != 0) {
                push(board.drawn, board.open & ~edge);
                push(board.drawn | edge, board.open & ~edge);
            }
        }

        private void push(long drawn, long open) {
            if (waiting >= 0 && waiting < drawnOf.length && waiting < openOf.length) {
                drawnOf[waiting] = drawn;
                openOf[waiting] = open;
                waiting++;
            }
        }
    }

    /** The latest states, in rows that are used round and round. */
    private static final class History {
        final int[] widths = new int[MOST_STATES];
        final int[] heights = new int[MOST_STATES];
        final long[] drawn = new long[MOST_STATES];
        final long[] open = new long[MOST_STATES];
        final int[] counts = new int[MOST_STATES * MOST_CELLS];
        final int[] made = new int[MOST_STATES * RULES];
        int size;
        /** Where the next state is put. */
        int next;

        void keep(Grid grid, Board board, int[] madeNow) {
            int at = Math.floorMod(next, MOST_STATES);
            widths[at] = grid.width;
            heights[at] = grid.height;
            drawn[at] = board.drawn;
            open[at] = board.open;
            for (int cell = 0; cell < MOST_CELLS; cell++) {
                counts[at * MOST_CELLS + cell] = grid.counts[cell];
            }
            for (int rule = 0; rule < RULES && rule < madeNow.length; rule++) {
                made[at * RULES + rule] = madeNow[rule];
            }
            next = Math.floorMod(at + 1, MOST_STATES);
            size = Math.min(size + 1, MOST_STATES);
        }

        void restore(Grid grid, Board board, int[] madeNow) {
            int at = Math.floorMod(next - 1, MOST_STATES);
            grid.lay(widths[at], heights[at]);
            for (int cell = 0; cell < MOST_CELLS; cell++) {
                grid.counts[cell] = counts[at * MOST_CELLS + cell];
            }
            for (int rule = 0; rule < RULES && rule < madeNow.length; rule++) {
                madeNow[rule] = made[at * RULES + rule];
            }
            board.begin(drawn[at], open[at]);
            next = at;
            size = Math.max(size - 1, 0);
        }
    }

    /** The text, and what was read from it. */
    private static final class Text {
        final byte[] letters = new byte[MOST_LETTERS];
        final int[] counts = new int[MOST_CELLS];
        int length;
        /** In the first row, how many cells a row may have; behind it, how many it has. */
        int columns;
        int rows;
        /** How many cells of the latest row were read. */
        int column;

        int append(int letter) {
            if (length < 0 || length >= MOST_LETTERS) {
                return FULL;
            }
            letters[length] = (byte) letter;
            length++;
            return length;
        }

        /** Reads the puzzle, and returns the fault, or NONE. */
        int read() {
            columns = MOST_SIDE;
            rows = 1;
            column = 0;
            for (int i = 0; i < length && i < MOST_LETTERS; i++) {
                int letter = letters[i];
                boolean stands = letter == ' ' || (letter == '/' ? beginRow() : addCell(letter));
                if (!stands) {
                    return i;
                }
            }
            if (!rowIsWhole()) {
                return length;
            }
            columns = column;
            return NONE;
        }

        private boolean beginRow() {
            if (!rowIsWhole() || rows == MOST_SIDE) {
                return false;
            }
            columns = column;
            rows++;
            column = 0;
            return true;
        }

        private boolean addCell(int letter) {
            int cell = (rows - 1) * columns + column;
            if (!isCell(letter) || column >= columns || cell < 0 || cell >= MOST_CELLS) {
                return false;
            }
            counts[cell] = letter == '.' ? NONE : letter - '0';
            column++;
            return true;
        }

        /** The first row may have any number of cells, and settles that of the others. */
        private boolean rowIsWhole() {
            return rows == 1 ? column > 0 : column == columns;
        }

        private static boolean isCell(int letter) {
            return letter == '.' || letter >= '0' && letter <= '0' + MOST_COUNT;
        }
    }
}
