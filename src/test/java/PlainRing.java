import java.util.ArrayList;
import java.util.Arrays;
import java.util.Collections;
import java.util.List;
import java.util.Set;
import java.util.TreeSet;

/**
 * The document once more, in its plainest form: nothing is kept beside the marks, each question is
 * answered from all of the grid. The tests compare RingPuzzle with it.
 */
final class PlainRing {
    static final int BAD = -2, STATE = -3, FULL = -4, NONE = -1;

    /** The grid with its marks: a thing to be copied for trials and for the history. */
    static final class Grid {
        int width, height;
        int[] counts;
        int[] marks;
        int[] made = new int[8];
        // Copies share these lists: they depend on the width and the height alone.
        final List<List<Integer>> around, at, ends;

        Grid(int width, int height) {
            this.width = width;
            this.height = height;
            counts = new int[width * height];
            Arrays.fill(counts, NONE);
            marks = new int[(height + 1) * width + height * (width + 1)];
            around = new ArrayList<>();
            at = new ArrayList<>();
            ends = new ArrayList<>();
            for (int cell = 0; cell < counts.length; cell++) around.add(edgesAroundCell(cell));
            for (int corner = 0; corner < corners(); corner++) at.add(edgesAtCorner(corner));
            for (int edge = 0; edge < marks.length; edge++) ends.add(cornersOfEdge(edge));
        }

        private Grid(Grid other) {
            width = other.width;
            height = other.height;
            counts = other.counts.clone();
            marks = other.marks.clone();
            made = other.made.clone();
            around = other.around;
            at = other.at;
            ends = other.ends;
        }

        Grid copy() {
            return new Grid(this);
        }

        List<Integer> aroundCell(int cell) {
            return around.get(cell);
        }

        List<Integer> atCorner(int corner) {
            return at.get(corner);
        }

        List<Integer> cornersOf(int edge) {
            return ends.get(edge);
        }

        int horizontal(int row, int column) {
            return row * width + column;
        }

        int vertical(int row, int column) {
            return (height + 1) * width + row * (width + 1) + column;
        }

        private List<Integer> edgesAroundCell(int cell) {
            int row = cell / width, column = cell % width;
            List<Integer> edges = new ArrayList<>(List.of(horizontal(row, column), horizontal(row + 1, column),
                    vertical(row, column), vertical(row, column + 1)));
            Collections.sort(edges);
            return edges;
        }

        private List<Integer> edgesAtCorner(int corner) {
            int row = corner / (width + 1), column = corner % (width + 1);
            List<Integer> edges = new ArrayList<>();
            if (column > 0) edges.add(horizontal(row, column - 1));
            if (column < width) edges.add(horizontal(row, column));
            if (row > 0) edges.add(vertical(row - 1, column));
            if (row < height) edges.add(vertical(row, column));
            Collections.sort(edges);
            return edges;
        }

        int corners() {
            return (width + 1) * (height + 1);
        }

        private List<Integer> cornersOfEdge(int edge) {
            List<Integer> both = new ArrayList<>();
            for (int corner = 0; corner < corners(); corner++) {
                if (atCorner(corner).contains(edge)) both.add(corner);
            }
            return both;
        }

        int marked(List<Integer> edges, int mark) {
            int n = 0;
            for (int edge : edges) {
                if (marks[edge] == mark) n++;
            }
            return n;
        }

        boolean cellFits(int cell) {
            if (counts[cell] == NONE) return true;
            int drawn = marked(aroundCell(cell), 1), open = marked(aroundCell(cell), 0);
            return drawn <= counts[cell] && drawn + open >= counts[cell];
        }

        boolean cornerFits(int corner) {
            int drawn = marked(atCorner(corner), 1), open = marked(atCorner(corner), 0);
            return !(drawn > 2) && !(drawn == 1 && open == 0);
        }

        /** All drawn edges that are joined with a drawn edge by corners. */
        Set<Integer> way(int edge) {
            Set<Integer> way = new TreeSet<>();
            List<Integer> todo = new ArrayList<>(List.of(edge));
            while (!todo.isEmpty()) {
                int next = todo.remove(todo.size() - 1);
                if (!way.add(next)) continue;
                for (int corner : cornersOf(next)) {
                    for (int other : atCorner(corner)) {
                        if (marks[other] == 1) todo.add(other);
                    }
                }
            }
            return way;
        }

        boolean isRing(Set<Integer> way) {
            for (int edge : way) {
                for (int corner : cornersOf(edge)) {
                    if (marked(atCorner(corner), 1) != 2) return false;
                }
            }
            return true;
        }

        boolean ringFits(Set<Integer> ring) {
            for (int edge = 0; edge < marks.length; edge++) {
                if (marks[edge] == 1 && !ring.contains(edge)) return false;
            }
            for (int cell = 0; cell < counts.length; cell++) {
                if (counts[cell] != NONE && marked(aroundCell(cell), 1) != counts[cell]) return false;
            }
            return true;
        }

        int firstBadCell() {
            for (int cell = 0; cell < counts.length; cell++) {
                if (!cellFits(cell)) return cell;
            }
            return NONE;
        }

        int firstBadCorner() {
            for (int corner = 0; corner < corners(); corner++) {
                if (!cornerFits(corner)) return corner;
            }
            return NONE;
        }

        int firstBadRingEdge() {
            for (int edge = 0; edge < marks.length; edge++) {
                if (marks[edge] == 1 && isRing(way(edge)) && !ringFits(way(edge))) return edge;
            }
            return NONE;
        }

        boolean hasRing() {
            for (int edge = 0; edge < marks.length; edge++) {
                if (marks[edge] == 1 && isRing(way(edge))) return true;
            }
            return false;
        }

        boolean fits() {
            return firstBadCell() == NONE && firstBadCorner() == NONE && firstBadRingEdge() == NONE;
        }

        boolean solved() {
            return fits() && hasRing();
        }

        int firstOpen(List<Integer> edges) {
            for (int edge : edges) {
                if (marks[edge] == 0) return edge;
            }
            return NONE;
        }

        boolean cellAllows(int rule, int cell) {
            int drawn = marked(aroundCell(cell), 1), open = marked(aroundCell(cell), 0);
            if (counts[cell] == NONE || open == 0) return false;
            return rule == 0 ? drawn == counts[cell] : drawn + open == counts[cell];
        }

        boolean cornerAllows(int rule, int corner) {
            int drawn = marked(atCorner(corner), 1), open = marked(atCorner(corner), 0);
            switch (rule) {
                case 2: return drawn == 2 && open > 0;
                case 3: return drawn == 0 && open == 1;
                default: return drawn == 1 && open == 1;
            }
        }

        /** The deduction {rule, edge, what it becomes, place} by one rule, or null. */
        int[] byRule(int rule) {
            int[] becomes = {2, 1, 2, 2, 1, 2, 2, 1};
            if (rule <= 1) {
                for (int cell = 0; cell < counts.length; cell++) {
                    if (cellAllows(rule, cell)) return new int[] {rule, firstOpen(aroundCell(cell)), becomes[rule], cell};
                }
                return null;
            }
            if (rule <= 4) {
                for (int corner = 0; corner < corners(); corner++) {
                    if (cornerAllows(rule, corner)) return new int[] {rule, firstOpen(atCorner(corner)), becomes[rule], corner};
                }
                return null;
            }
            for (int edge = 0; edge < marks.length; edge++) {
                if (marks[edge] != 0) continue;
                boolean allows = rule == 5 ? closesBadRing(edge) : trialFails(edge, rule == 6 ? 1 : 2);
                if (allows) return new int[] {rule, edge, becomes[rule], NONE};
            }
            return null;
        }

        boolean closesBadRing(int edge) {
            List<Integer> ends = cornersOf(edge);
            boolean joined = false;
            for (int first : atCorner(ends.get(0))) {
                for (int second : atCorner(ends.get(1))) {
                    if (marks[first] == 1 && marks[second] == 1 && way(first).contains(second)) joined = true;
                }
            }
            if (!joined) return false;
            Grid trial = copy();
            trial.marks[edge] = 1;
            Set<Integer> ring = trial.way(edge);
            return trial.isRing(ring) && !trial.ringFits(ring);
        }

        boolean trialFails(int edge, int mark) {
            Grid trial = copy();
            trial.marks[edge] = mark;
            trial.deduceAll(5);
            return !trial.fits();
        }

        int[] next(int most) {
            if (!fits() || solved()) return null;
            for (int rule = 0; rule <= most; rule++) {
                int[] deduction = byRule(rule);
                if (deduction != null) return deduction;
            }
            return null;
        }

        int deduceAll(int most) {
            int n = 0;
            for (int[] d = next(most); d != null; d = next(most)) {
                marks[d[1]] = d[2];
                made[d[0]]++;
                n++;
            }
            return n;
        }
    }

    /** The search, as the document tells it; a path of it ends by an exception of its own. */
    static final class Search {
        final int most;
        int found, looked;
        boolean tooMany, ended;
        Grid first;

        Search(Grid from, int most) {
            this.most = most;
            look(from.copy());
        }

        private void look(Grid grid) {
            if (ended) return;
            if (looked == 200) {
                tooMany = true;
                ended = true;
                return;
            }
            looked++;
            grid.deduceAll(5);
            if (!grid.fits()) return;
            if (grid.solved()) {
                if (found == 0) first = grid;
                found++;
                if (found == most) ended = true;
                return;
            }
            int least = -1;
            for (int edge = grid.marks.length - 1; edge >= 0; edge--) {
                if (grid.marks[edge] == 0) least = edge;
            }
            if (least == -1) return;
            for (int mark = 1; mark <= 2; mark++) {
                Grid next = grid.copy();
                next.marks[least] = mark;
                look(next);
            }
        }
    }

    private Grid grid = new Grid(3, 3);
    private String text = "";
    private final List<Grid> history = new ArrayList<>();

    private void change() {
        history.add(grid.copy());
        if (history.size() > 8) history.remove(0);
    }

    private boolean isEdge(int edge) {
        return edge >= 0 && edge < grid.marks.length;
    }

    private boolean isCell(int cell) {
        return cell >= 0 && cell < grid.counts.length;
    }

    int type(int letter) {
        if (letter < 0 || letter > 127) return BAD;
        if (text.length() == 40) return FULL;
        text += (char) letter;
        return text.length();
    }

    int clearText() {
        int n = text.length();
        text = "";
        return n;
    }

    /** Tries beginnings of the text: the first that no puzzle begins with ends with the fault. */
    int fault() {
        for (int n = 1; n <= text.length(); n++) {
            if (!beginsPuzzle(text.substring(0, n))) return n - 1;
        }
        return isPuzzle(text) ? NONE : text.length();
    }

    static boolean isPuzzle(String text) {
        String[] rows = text.replace(" ", "").split("/", -1);
        if (rows.length > 4) return false;
        for (String row : rows) {
            if (!row.matches("[0-3.]{1,4}") || row.length() != rows[0].length()) return false;
        }
        return true;
    }

    static boolean beginsPuzzle(String text) {
        for (String end : List.of("", ".", "..", "...", "....")) {
            if (isPuzzle(text + end)) return true;
        }
        return false;
    }

    int setPuzzle() {
        if (fault() != NONE) return STATE;
        change();
        String[] rows = text.replace(" ", "").split("/");
        grid = new Grid(rows[0].length(), rows.length);
        String cells = String.join("", rows);
        for (int cell = 0; cell < cells.length(); cell++) {
            grid.counts[cell] = cells.charAt(cell) == '.' ? NONE : cells.charAt(cell) - '0';
        }
        return grid.marks.length;
    }

    int setCount(int cell, int count) {
        if (!isCell(cell) || count < NONE || count > 3) return BAD;
        change();
        int before = grid.counts[cell];
        grid.counts[cell] = count;
        return before;
    }

    int mark(int edge, int mark) {
        if (!isEdge(edge) || mark < 0 || mark > 2) return BAD;
        change();
        int before = grid.marks[edge];
        grid.marks[edge] = mark;
        return before;
    }

    int wipe() {
        change();
        int before = 0;
        for (int mark : grid.marks) {
            if (mark != 0) before++;
        }
        grid.marks = new int[grid.marks.length];
        grid.made = new int[8];
        return before;
    }

    int deduce() {
        if (!grid.fits()) return STATE;
        change();
        int[] d = grid.next(7);
        if (d == null) return NONE;
        grid.marks[d[1]] = d[2];
        grid.made[d[0]]++;
        return d[0];
    }

    int deduceAll(int most) {
        if (most < 0 || most > 7) return BAD;
        if (!grid.fits()) return STATE;
        change();
        return grid.deduceAll(most);
    }

    int undo() {
        if (history.isEmpty()) return STATE;
        grid = history.remove(history.size() - 1);
        return history.size();
    }

    int countOf(int cell) {
        return isCell(cell) ? grid.counts[cell] : BAD;
    }

    int edge(int edge) {
        return isEdge(edge) ? grid.marks[edge] : BAD;
    }

    int edgeAt(boolean corner, int number, int i) {
        if (i < 0 || number < 0 || number >= (corner ? grid.corners() : grid.counts.length)) return BAD;
        List<Integer> edges = corner ? grid.atCorner(number) : grid.aroundCell(number);
        return i < edges.size() ? edges.get(i) : NONE;
    }

    int misfit(int what) {
        switch (what) {
            case 0: return grid.firstBadCell();
            case 1: return grid.firstBadCorner();
            case 2: return grid.firstBadRingEdge();
            case 3: return grid.fits() ? 1 : 0;
            case 4: return grid.solved() ? 1 : 0;
            default: return BAD;
        }
    }

    int hint(int what) {
        if (what < 0 || what > 3) return BAD;
        if (!grid.fits()) return STATE;
        int[] d = grid.next(7);
        return d == null ? NONE : d[what];
    }

    int way(int edge, int what) {
        if (!isEdge(edge) || what < 0 || what > 2) return BAD;
        if (grid.marks[edge] != 1) return NONE;
        Set<Integer> way = grid.way(edge);
        return what == 0 ? way.size() : what == 1 ? Collections.min(way) : grid.isRing(way) ? 1 : 0;
    }

    int solutions(int most) {
        if (most < 1 || most > 20) return BAD;
        return new Search(grid, most).found;
    }

    int nodes(int most) {
        if (most < 1 || most > 20) return BAD;
        Search search = new Search(grid, most);
        return search.tooMany ? -200 : search.looked;
    }

    int solved(int edge) {
        if (!isEdge(edge)) return BAD;
        Search search = new Search(grid, 1);
        if (search.first == null) return NONE;
        return search.first.marks[edge] == 1 ? 1 : 0;
    }

    int grade() {
        Grid trial = grid.copy();
        trial.marks = new int[grid.marks.length];
        trial.made = new int[8];
        trial.deduceAll(7);
        if (!trial.solved()) return NONE;
        int[] grades = {1, 1, 1, 2, 2, 3, 4, 4};
        int greatest = NONE;
        for (int rule = 0; rule < 8; rule++) {
            if (trial.made[rule] > 0) greatest = Math.max(greatest, grades[rule]);
        }
        return greatest;
    }

    int count(int what) {
        if (what < 0 || what > 15) return BAD;
        if (what >= 6 && what <= 13) return grid.made[what - 6];
        int open = 0, drawn = 0, counted = 0;
        for (int mark : grid.marks) {
            if (mark == 0) open++;
            if (mark == 1) drawn++;
        }
        for (int count : grid.counts) {
            if (count != NONE) counted++;
        }
        switch (what) {
            case 0: return grid.width;
            case 1: return grid.height;
            case 2: return grid.marks.length;
            case 3: return open;
            case 4: return drawn;
            case 5: return counted;
            case 14: return history.size();
            default: return text.length();
        }
    }

    long digest() {
        List<Integer> numbers = new ArrayList<>();
        for (int what = 0; what <= 15; what++) numbers.add(count(what));
        for (int count : grid.counts) numbers.add(count);
        for (int mark : grid.marks) numbers.add(mark);
        for (int what = 0; what <= 4; what++) numbers.add(misfit(what));
        for (int what = 0; what <= 3; what++) numbers.add(hint(what));
        numbers.add(solutions(2));
        numbers.add(nodes(2));
        numbers.add(grade());
        for (char letter : text.toCharArray()) numbers.add((int) letter);
        long h = 157;
        for (int number : numbers) h = 31 * h + number;
        return h;
    }

    /** How many sets of edges solve the grid by what a solution is, without any search. */
    int solutionsByTrying() {
        int solutions = 0;
        int edges = grid.marks.length;
        for (long set = 0; set < 1L << edges; set++) {
            Grid trial = grid.copy();
            boolean allowed = true;
            for (int edge = 0; edge < edges; edge++) {
                boolean in = (set >> edge & 1) != 0;
                if (grid.marks[edge] != 0 && in != (grid.marks[edge] == 1)) allowed = false;
                trial.marks[edge] = in ? 1 : 2;
            }
            if (allowed && trial.solved()) solutions++;
        }
        return solutions;
    }
}
