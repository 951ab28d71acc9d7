/** Promises 2 (type), 3 (clearText), 4 (fault) and 5 (setPuzzle). */
public final class TextTest {
    private static final int BAD = RingPuzzle.BAD, STATE = RingPuzzle.STATE, FULL = RingPuzzle.FULL, NONE = RingPuzzle.NONE;
    private static final Check check = new Check("TextTest");

    private static void type() {
        RingPuzzle x = new RingPuzzle();
        check.due("type(-1)", x.type(-1), BAD);
        check.due("type(128)", x.type(128), BAD);
        check.due("type(least)", x.type(Integer.MIN_VALUE), BAD);
        check.due("type(greatest)", x.type(Integer.MAX_VALUE), BAD);
        check.due("type(256 + '3')", x.type(256 + '3'), BAD);
        check.due("count(15) behind wrong letters", x.count(15), 0);
        check.due("type(0)", x.type(0), 1);
        check.due("type(127)", x.type(127), 2);
        for (int length = 3; length <= 40; length++) {
            check.due("type(32), the " + length + "th", x.type(32), length);
            check.due("count(15)", x.count(15), length);
        }
        long before = x.digest();
        check.due("type('3') at 40", x.type('3'), FULL);
        check.due("type(-1) at 40", x.type(-1), BAD);
        check.due("type(128) at 40", x.type(128), BAD);
        check.due("digest() behind errors", x.digest(), before);
        check.due("count(15) at 40", x.count(15), 40);
        check.due("count(14), as typing is no change", x.count(14), 0);
    }

    private static void clearText() {
        RingPuzzle x = new RingPuzzle();
        check.due("clearText() at first", x.clearText(), 0);
        Puzzles.typeAll(x, "33/.x");
        check.due("clearText()", x.clearText(), 5);
        check.due("count(15)", x.count(15), 0);
        check.due("clearText() again", x.clearText(), 0);
        check.due("type('2')", x.type('2'), 1);
        check.due("fault() of the new text", x.fault(), NONE);
        for (int i = 0; i < 50; i++) {
            x.type(' ');
        }
        check.due("clearText() of a full text", x.clearText(), 40);
        check.due("type('2') behind it", x.type('2'), 1);
        check.due("count(14), as clearing is no change", x.count(14), 0);
    }

    private static void faultOf(String text, int want) {
        RingPuzzle x = new RingPuzzle();
        Puzzles.typeAll(x, text);
        long before = x.digest();
        check.due("fault() of \"" + text + "\"", x.fault(), want);
        check.due("fault() again of \"" + text + "\"", x.fault(), want);
        check.due("digest() behind fault()", x.digest(), before);
        check.due("setPuzzle() of \"" + text + "\"", x.setPuzzle() == STATE ? 1 : 0, want == NONE ? 0 : 1);
    }

    private static void fault() {
        String[] good = {
            "0", "1", "2", "3", ".", "....", "0123", ".../...", "./././.", "1/2", "3333/3333/3333/3333",
            " 3", "3 ", " 3 / 3 ", "3 . / . 3", "  1  ", "1 2 3 0/ 0   3 2 1/..../    ....          "
        };
        for (String text : good) {
            faultOf(text, NONE);
        }
        // The text ends too early.
        faultOf("", 0);
        faultOf("   ", 3);
        faultOf("3/", 2);
        faultOf("3/ ", 3);
        faultOf("33/3", 4);
        faultOf("33/3  ", 6);
        faultOf("3333/3333/3333/333", 18);
        faultOf("./././", 6);
        // A byte that cannot stand there, whatever follows.
        faultOf("4", 0);
        faultOf("3a", 1);
        faultOf("3/x", 2);
        faultOf("..-.", 2);
        faultOf("3\t3", 1);
        faultOf("3\u0000", 1);
        faultOf("\u007f3", 0);
        faultOf("3:", 1);
        faultOf("3-", 1);
        faultOf(" 9 3", 1);
        // A cell too many.
        faultOf("33333", 4);
        faultOf("3 3 3 3 3", 8);
        faultOf("3/33", 3);
        faultOf("33/333", 5);
        faultOf("33/33/3 33", 9);
        // A "/" ahead of which a row has too few cells, or behind the fourth row.
        faultOf("/", 0);
        faultOf(" /3", 1);
        faultOf("3//3", 2);
        faultOf("33/3/33", 4);
        faultOf("33/ /33", 4);
        faultOf("3/3/3/3/", 7);
        faultOf("3/3/3/3/3", 7);
        faultOf("33/33/33/3/", 10);
    }

    /** All texts of some letters behind a beginning, against the plain model. */
    private static void allTexts(String begin, int most) {
        againstModel(begin);
        if (most > 0) {
            for (char letter : ".2/ 4".toCharArray()) {
                allTexts(begin + letter, most - 1);
            }
        }
    }

    private static void againstModel(String text) {
        RingPuzzle x = new RingPuzzle();
        PlainRing plain = new PlainRing();
        for (char letter : text.toCharArray()) {
            x.type(letter);
            plain.type(letter);
        }
        check.due("fault() of \"" + text + "\"", x.fault(), plain.fault());
        check.due("setPuzzle() of \"" + text + "\"", x.setPuzzle(), plain.setPuzzle());
        check.due("width of \"" + text + "\"", x.count(0), plain.count(0));
        for (int cell = 0; cell <= 16; cell++) {
            check.due("countOf(" + cell + ") of \"" + text + "\"", x.countOf(cell), plain.countOf(cell));
        }
    }

    private static void setPuzzle() {
        for (int height = 1; height <= 4; height++) {
            for (int width = 1; width <= 4; width++) {
                StringBuilder text = new StringBuilder();
                for (int row = 0; row < height; row++) {
                    text.append(row == 0 ? "" : "/").append("2.13".substring(0, width));
                }
                RingPuzzle x = new RingPuzzle();
                Puzzles.typeAll(x, text.toString());
                int edges = (height + 1) * width + height * (width + 1);
                check.due("setPuzzle() of " + text, x.setPuzzle(), edges);
                check.holds("state of " + text, Puzzles.state(x).equals(width + "x" + height + " "
                        + "2.13".substring(0, width).repeat(height) + " " + ".".repeat(edges) + " 0 0 0 0 0 0 0 0"));
                check.due("count(14)", x.count(14), 1);
                check.due("count(15), the text stays", x.count(15), text.length());
            }
        }
    }

    private static void setPuzzleAnew() {
        RingPuzzle x = Puzzles.of("3/0");
        x.clearText();
        check.due("setPuzzle() of no text", x.setPuzzle(), STATE);
        Puzzles.with(x, "d 0");
        x.deduceAll(7);
        check.holds("deductions were counted", x.count(6) > 0);
        String state = Puzzles.state(x);
        int states = x.count(14);
        Puzzles.typeAll(x, "22/2");
        long digest = x.digest();
        check.due("setPuzzle() of a fault", x.setPuzzle(), STATE);
        check.due("digest() behind it", x.digest(), digest);
        check.holds("state behind it", Puzzles.state(x).equals(state));
        check.due("count(14) behind it", x.count(14), states);
        x.type('.');
        check.due("setPuzzle()", x.setPuzzle(), 12);
        check.holds("state behind it", Puzzles.state(x).equals("2x2 222. ............ 0 0 0 0 0 0 0 0"));
        check.due("count(14) behind it", x.count(14), states + 1);
        check.due("setPuzzle() again, a change all the same", x.setPuzzle(), 12);
        check.due("count(14) behind it", x.count(14), states + 2);
        check.due("undo()", x.undo(), states + 1);
        check.due("undo()", x.undo(), states);
        check.holds("state behind undo()", Puzzles.state(x).equals(state));
        check.due("count(15) behind undo()", x.count(15), 5);
    }

    public static void main(String[] args) {
        type();
        clearText();
        fault();
        allTexts("", 6);
        allTexts("2/./2/", 4);
        allTexts("..../.2../..../..2", 4);
        setPuzzle();
        setPuzzleAnew();
        check.end();
    }
}
