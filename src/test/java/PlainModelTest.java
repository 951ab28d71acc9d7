/**
 * All promises: runs of calls that a small generator chooses, always the same ones, are compared
 * with the plain model. An argument of the program is the number of runs, another one the seed.
 */
public final class PlainModelTest {
    private static final String[] TEXTS = {
        "3", ".", "2", "0", "33", "3/3", "22/22", "3./.3", ".3./2.2", "3.3/.../3.3", "...", "1.1/.2.",
        ".2./3.1/.2.", "2.2/.0./2.2", "..../..../..../....", "3.../.2../..2./...3", "23.3/.1../2..2/3.23",
        "222/2.2/222", "3..3/..../..../3..3", "1111", "2/2/2/2", " 3 / 3 ", "33/333", "3333/33/", "4", "/", "3//3",
        "3/3/3/3/3", "33333", ".1.2/3.2./.2.3/2.1.", "32/..", "3.1/...", "02/..", "3..1/.22./.22./1..3"
    };

    /** An object is used for 512 calls; one change asks 100 at most, the end of a run 250. */
    private static final int MOST_ASKED = 150;

    private final Check check;
    private long seed;
    private RingPuzzle x;
    private PlainRing plain;
    private boolean small;

    private PlainModelTest(Check check, long seed) {
        this.check = check;
        this.seed = seed;
    }

    private int below(int bound) {
        seed = seed * 6364136223846793005L + 1442695040888963407L;
        return (int) ((seed >>> 33) % bound);
    }

    private void typeAll(String text) {
        for (char letter : text.toCharArray()) {
            check.due("type(" + (int) letter + ")", x.type(letter), plain.type(letter));
        }
    }

    private void newPuzzle() {
        check.due("clearText()", x.clearText(), plain.clearText());
        if (below(2) == 0) {
            typeAll(TEXTS[below(TEXTS.length)]);
        } else {
            int width = 1 + below(small ? 3 : 4);
            int height = 1 + below(small ? 3 : 4);
            StringBuilder text = new StringBuilder();
            int emptiness = 1 + below(12);
            for (int row = 0; row < height; row++) {
                if (row > 0) {
                    text.append('/');
                }
                for (int column = 0; column < width; column++) {
                    text.append(below(12) < emptiness ? '.' : (char) ('0' + below(4)));
                }
            }
            if (below(8) == 0) {
                text.insert(below(text.length()), " /3.5x".charAt(below(6)));
            }
            typeAll(text.toString());
        }
        check.due("fault()", x.fault(), plain.fault());
        check.due("setPuzzle()", x.setPuzzle(), plain.setPuzzle());
    }

    /** Draws or rules out edges of a solution, so that runs come to grids that are nearly solved. */
    private void followSolution() {
        int edges = plain.count(2);
        int times = below(edges + 1);
        for (int i = 0; i < times; i++) {
            int edge = below(edges);
            int in = plain.solved(edge);
            check.due("solved(" + edge + ")", x.solved(edge), in);
            if (in >= 0) {
                int mark = in == 1 ? 1 : below(2) * 2;
                check.due("mark(" + edge + ", " + mark + ")", x.mark(edge, mark), plain.mark(edge, mark));
            }
        }
    }

    /** Takes counts from a solution, so that there is one. */
    private void countSolution() {
        if (plain.solutions(1) != 1) {
            return;
        }
        for (int cell = 0; cell < plain.count(0) * plain.count(1); cell++) {
            int around = 0;
            for (int i = 0; i < 4; i++) {
                around += plain.solved(plain.edgeAt(false, cell, i));
            }
            if (below(3) > 0 && around < 4) {
                check.due("setCount(" + cell + ", " + around + ")", x.setCount(cell, around), plain.setCount(cell, around));
            }
        }
    }

    private void change() {
        int edge = below(44) - 2;
        int cell = below(18) - 1;
        int most = below(10) - 1;
        switch (below(16)) {
            case 0: newPuzzle(); break;
            case 1: case 2: case 3: {
                int mark = below(12) == 0 ? below(5) - 1 : 1 + below(8) / 5;
                check.due("mark(" + edge + ", " + mark + ")", x.mark(edge, mark), plain.mark(edge, mark));
                break;
            }
            case 4: case 5: {
                int count = below(7) - 2;
                check.due("setCount(" + cell + ", " + count + ")", x.setCount(cell, count), plain.setCount(cell, count));
                break;
            }
            case 6: if (below(3) == 0) check.due("wipe()", x.wipe(), plain.wipe()); break;
            case 7: case 8: case 9: check.due("deduce()", x.deduce(), plain.deduce()); break;
            case 10: check.due("deduceAll(" + most + ")", x.deduceAll(most), plain.deduceAll(most)); break;
            case 11: case 12: check.due("undo()", x.undo(), plain.undo()); break;
            case 13: if (small) followSolution(); break;
            case 14: if (small) countSolution(); break;
            default: {
                int letter = below(4) == 0 ? below(132) - 2 : " ./0123".charAt(below(7));
                check.due("type(" + letter + ")", x.type(letter), plain.type(letter));
                check.due("fault()", x.fault(), plain.fault());
            }
        }
    }

    /** Numbers, counts and edges, and of the dearer questions one kind a run, as an object has few calls. */
    private void askAll() {
        for (int what = -1; what <= 16; what++) {
            check.due("count(" + what + ")", x.count(what), plain.count(what));
        }
        for (int cell = -1; cell <= 16; cell++) {
            check.due("countOf(" + cell + ")", x.countOf(cell), plain.countOf(cell));
        }
        for (int edge = -1; edge <= 40; edge++) {
            check.due("edge(" + edge + ")", x.edge(edge), plain.edge(edge));
        }
        if (below(2) == 0) {
            askWays();
        } else {
            askPlaces(below(2) == 0);
        }
    }

    private void askWays() {
        for (int edge = -1; edge <= 40; edge++) {
            for (int what = 0; what <= 2; what++) {
                check.due("way(" + edge + ", " + what + ")", x.way(edge, what), plain.way(edge, what));
            }
        }
        check.due("way(0, 3)", x.way(0, 3), plain.way(0, 3));
        check.due("way(0, -1)", x.way(0, -1), plain.way(0, -1));
    }

    private void askPlaces(boolean corner) {
        for (int number = -1; number <= 25; number++) {
            for (int i = -1; i <= 4; i++) {
                check.due("edgeAt(" + corner + ", " + number + ", " + i + ")", x.edgeAt(corner, number, i), plain.edgeAt(corner, number, i));
            }
        }
    }

    private void askSome() {
        for (int what = -1; what <= 5; what++) {
            check.due("misfit(" + what + ")", x.misfit(what), plain.misfit(what));
        }
        if (below(small ? 2 : 6) == 0) {
            for (int what = -1; what <= 4; what++) {
                check.due("hint(" + what + ")", x.hint(what), plain.hint(what));
            }
        }
        if (below(small ? 4 : 12) == 0) {
            int most = below(23) - 1;
            int edge = below(42) - 1;
            check.due("solutions(" + most + ")", x.solutions(most), plain.solutions(most));
            check.due("nodes(" + most + ")", x.nodes(most), plain.nodes(most));
            check.due("solved(" + edge + ")", x.solved(edge), plain.solved(edge));
        }
        if (below(small ? 4 : 40) == 0) {
            check.due("digest()", x.digest(), plain.digest());
            check.due("grade()", x.grade(), plain.grade());
        }
    }

    private void run(int changes) {
        x = new RingPuzzle();
        plain = new PlainRing();
        small = below(5) != 0;
        newPuzzle();
        int begun = check.asked();
        for (int i = 0; i < changes && check.asked() - begun < MOST_ASKED; i++) {
            change();
            askSome();
        }
        askAll();
    }

    public static void main(String[] args) {
        Check check = new Check("PlainModelTest");
        int runs = args.length > 0 ? Integer.parseInt(args[0]) : 120;
        long seed = args.length > 1 ? Long.parseLong(args[1]) : 1;
        PlainModelTest test = new PlainModelTest(check, seed);
        for (int run = 0; run < runs; run++) {
            test.run(25);
        }
        check.end();
    }
}
