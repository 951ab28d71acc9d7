/**
 * All promises: calls with arguments of all kinds in states of all kinds. None throws, also behind
 * the 512th call; a call that tells something, or answers an error, changes nothing.
 */
public final class EveryCallTest {
    private static final int[] ARGUMENTS = {
        Integer.MIN_VALUE, Integer.MIN_VALUE + 1, -1000, -65, -64, -33, -32, -5, -4, -3, -2, -1, 0, 0, 1, 1, 2, 2, 3, 3, 4, 5, 6, 7,
        8, 9, 10, 11, 12, 13, 14, 15, 16, 17, 18, 20, 21, 23, 24, 25, 26, 31, 32, 33, 38, 39, 40, 41, 46, 47, 48, 49, 50, 51, 52,
        63, 64, 65, 127, 128, 200, 1000, 1 << 30, Integer.MAX_VALUE - 1, Integer.MAX_VALUE
    };
    private static final String[] NAMES = {
        "type", "clearText", "fault", "setPuzzle", "setCount", "mark", "wipe", "deduce", "deduceAll", "undo", "countOf", "edge",
        "edgeAt", "misfit", "hint", "way", "solutions", "nodes", "solved", "grade", "count", "digest"
    };
    /** The methods ahead of this one change something, all but fault(). */
    private static final int FIRST_TOLD = 10, FAULT = 2;
    private static final int USED = 512, MORE = 700;
    private static final Check check = new Check("EveryCallTest");

    private long seed;
    private RingPuzzle x;

    private EveryCallTest(long seed) {
        this.seed = seed;
    }

    private int below(int bound) {
        seed = seed * 6364136223846793005L + 1442695040888963407L;
        return (int) ((seed >>> 33) % bound);
    }

    private static long answer(RingPuzzle x, int method, int a, int b, int c) {
        switch (NAMES[method]) {
            case "type": return x.type(a);
            case "clearText": return x.clearText();
            case "fault": return x.fault();
            case "setPuzzle": return x.setPuzzle();
            case "setCount": return x.setCount(a, b);
            case "mark": return x.mark(a, b);
            case "wipe": return x.wipe();
            case "deduce": return x.deduce();
            case "deduceAll": return x.deduceAll(a);
            case "undo": return x.undo();
            case "countOf": return x.countOf(a);
            case "edge": return x.edge(a);
            case "edgeAt": return x.edgeAt((c & 1) == 0, a, b);
            case "misfit": return x.misfit(a);
            case "hint": return x.hint(a);
            case "way": return x.way(a, b);
            case "solutions": return x.solutions(a);
            case "nodes": return x.nodes(a);
            case "solved": return x.solved(a);
            case "grade": return x.grade();
            case "count": return x.count(a);
            default: return x.digest() == x.digest() ? 0 : 1;
        }
    }

    private void call(boolean asksDigest) {
        int method = below(NAMES.length);
        int a = ARGUMENTS[below(ARGUMENTS.length)];
        int b = ARGUMENTS[below(ARGUMENTS.length)];
        int c = below(2);
        long before = asksDigest ? x.digest() : 0;
        long answer = answer(x, method, a, b, c);
        String name = NAMES[method] + " with " + a + ", " + b + ", " + c;
        check.holds(name + " answered " + answer, answer >= -4 && answer <= 200 || NAMES[method].equals("nodes") && answer == -200);
        boolean changesNothing = method >= FIRST_TOLD || method == FAULT || answer <= RingPuzzle.BAD;
        if (asksDigest && changesNothing) {
            check.holds(name + " changes nothing", x.digest() == before);
        }
    }

    private void typeSomePuzzle() {
        int width = 1 + below(4);
        int height = 1 + below(4);
        StringBuilder text = new StringBuilder();
        for (int cell = 0; cell < width * height; cell++) {
            text.append(cell > 0 && cell % width == 0 ? "/" : "").append("......0123".charAt(below(10)));
        }
        Puzzles.typeAll(x, text.toString());
        check.holds("setPuzzle() of " + text, x.setPuzzle() > 0);
    }

    private void useObject() {
        x = new RingPuzzle();
        if (below(4) > 0) {
            typeSomePuzzle();
        }
        int made = x.count(15) + 2;
        for (; made + 4 <= USED; made += 4) {
            call(true);
        }
        for (int more = 0; more < MORE; more++) {
            call(false);
        }
    }

    public static void main(String[] args) {
        EveryCallTest test = new EveryCallTest(args.length > 0 ? Long.parseLong(args[0]) : 1);
        int objects = 60;
        for (int object = 0; object < objects; object++) {
            test.useObject();
        }
        check.end();
    }
}
