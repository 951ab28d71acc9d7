/** Sentences about the text and what is read from it: promises 2, 3, 4 and 5. */
final class TextBoundaries {
    private static final int BAD = RingPuzzle.BAD, STATE = RingPuzzle.STATE, FULL = RingPuzzle.FULL, NONE = RingPuzzle.NONE;
    private static final int LEAST = Integer.MIN_VALUE, GREATEST = Integer.MAX_VALUE;
    /** 19 bytes, and 40 bytes of which the last one is a cell. */
    private static final String GREAT = "..../..../..../...1";
    private static final String FULL_TEXT = "..../..../..../..." + " ".repeat(21) + "1";

    private TextBoundaries() {
    }

    static void tell(Sentences s) {
        s.test("2, 4, 5", "There is a text of at most 40 bytes,", TextBoundaries::fortyBytes);
        s.test("4, 5", "which is read as a puzzle: rows of cells with \"/\" between them, each cell a digit from 0 to 3, or \".\" for no count.",
                TextBoundaries::cells);
        s.test("4, 5", "There are 1 to 4 rows, and each has as many cells as the first one, 1 to 4.", TextBoundaries::rows);
        s.test("4, 5", "Blanks (byte 32) can stand anywhere; they do not matter.", TextBoundaries::blanks);
        s.test("4", "The fault of a text is the index, from 0, of the first byte that cannot stand at its place", TextBoundaries::firstFault);
        s.test("4", "(also that of a cell too many,", TextBoundaries::cellTooMany);
        s.test("4", "of a \"/\" ahead of which a row has too few,", TextBoundaries::tooFewAhead);
        s.test("4", "and of a \"/\" behind the fourth row),", TextBoundaries::behindTheFourthRow);
        s.test("4", "or the length of the text if it ends too early.", TextBoundaries::endsTooEarly);
        s.test("2", "Appends a byte to the text.", TextBoundaries::appends);
        s.test("2", "- letter: the byte, 0 to 127", TextBoundaries::letters);
        s.test("2", "Returns the length of the text; BAD; FULL if the text has 40 bytes.", TextBoundaries::typeAnswers);
        s.test("3", "Empties the text.", TextBoundaries::empties);
        s.test("3", "Returns the length that it had.", TextBoundaries::clearAnswers);
        s.test("4", "Returns the index; NONE if there is no fault.", TextBoundaries::faultAnswers);
        s.test("5", "Makes the puzzle of the text the puzzle, with all edges open;", TextBoundaries::allOpen);
        s.test("5", "no deductions are counted.", TextBoundaries::noneCounted);
        s.test("5", "The text stays.", TextBoundaries::textStays);
        s.test("5", "Returns the number of edges; STATE if the text has a fault.", TextBoundaries::puzzleAnswers);
    }

    private static RingPuzzle typed(String text) {
        RingPuzzle x = new RingPuzzle();
        Puzzles.typeAll(x, text);
        return x;
    }

    private static void fault(Check check, String text, int due) {
        check.due("fault() of \"" + text + "\"", typed(text).fault(), due);
        int answer = typed(text).setPuzzle();
        check.holds("setPuzzle() of \"" + text + "\" answered " + answer, due == NONE ? answer >= 4 : answer == STATE);
    }

    private static void fortyBytes(Check check) {
        check.due("bytes of the full text", FULL_TEXT.length(), 40);
        RingPuzzle x = typed(FULL_TEXT);
        check.due("fault() of a full text", x.fault(), NONE);
        check.due("setPuzzle() of a full text", x.setPuzzle(), 40);
        check.due("the cell of the last byte", x.countOf(15), 1);
        x = typed(" " + FULL_TEXT);
        check.due("the length with one byte too many", x.count(15), 40);
        check.due("fault() without the last cell", x.fault(), 40);
        x = typed(FULL_TEXT + "x");
        check.due("fault() behind a wrong byte that was refused", x.fault(), NONE);
    }

    private static void cells(Check check) {
        RingPuzzle x = Puzzles.of("012/3..");
        int[] counts = {0, 1, 2, 3, NONE, NONE};
        for (int cell = 0; cell < 6; cell++) {
            check.due("countOf(" + cell + ")", x.countOf(cell), counts[cell]);
        }
        for (int letter = 0; letter <= 127; letter++) {
            boolean cell = letter == '.' || letter >= '0' && letter <= '3';
            RingPuzzle one = new RingPuzzle();
            one.type(letter);
            check.due("fault() of byte " + letter, one.fault(), cell ? NONE : letter == ' ' ? 1 : 0);
            one.type('.');
            boolean may = cell || letter == ' ';
            check.due("fault() of byte " + letter + " and a cell", one.fault(), may ? NONE : 0);
        }
    }

    private static void rows(Check check) {
        for (int rows = 1; rows <= 5; rows++) {
            for (int columns = 1; columns <= 5; columns++) {
                String text = ("/" + "2".repeat(columns)).repeat(rows).substring(1);
                int due = columns == 5 ? 4 : rows == 5 ? 4 * columns + 3 : NONE;
                fault(check, text, due);
            }
        }
        fault(check, "..../..../..../..../", 19);
        fault(check, "..", NONE);
        fault(check, "../.", 4);
        fault(check, "../..", NONE);
        fault(check, "../...", 5);
        fault(check, "../../.", 7);
        fault(check, "", 0);
    }

    private static void blanks(Check check) {
        fault(check, " 1", NONE);
        fault(check, "1 ", NONE);
        fault(check, "1 1", NONE);
        fault(check, "1 / 1", NONE);
        fault(check, " 1 2 / 3 . ", NONE);
        fault(check, " ".repeat(39) + "1", NONE);
        fault(check, "1" + " ".repeat(39), NONE);
        RingPuzzle x = Puzzles.of(" 1 2 / 3 . ");
        check.due("the width", x.count(0), 2);
        check.due("the height", x.count(1), 2);
        check.holds("the counts", Puzzles.counts(x).equals("123."));
        for (int letter : new int[] {0, 9, 10, 13, 31, 33, 95, 127}) {
            RingPuzzle other = typed("1");
            other.type(letter);
            check.due("byte " + letter + " is no blank", other.fault(), 1);
        }
    }

    private static void firstFault(Check check) {
        fault(check, "x", 0);
        fault(check, "xx", 0);
        fault(check, "1x2y", 1);
        fault(check, "4", 0);
        fault(check, " 4 5", 1);
        fault(check, "1/4", 2);
        fault(check, "123x/5", 3);
        fault(check, "12/x", 3);
        fault(check, " ".repeat(39) + "x", 39);
        fault(check, "1".repeat(4) + " ".repeat(35) + "x", 39);
        fault(check, "11111x", 4);
        fault(check, "1x1111", 1);
    }

    private static void cellTooMany(Check check) {
        fault(check, "11111", 4);
        fault(check, "1111 1", 5);
        fault(check, "1/11", 3);
        fault(check, "1111/11111", 9);
        fault(check, "11/11/111", 8);
        fault(check, "1/1/1/11", 7);
        fault(check, "1111/1111/1111/11111", 19);
        fault(check, "1111/1111/1111/1111.", 19);
        fault(check, "1111", NONE);
        fault(check, "1/1/1/1", NONE);
    }

    private static void tooFewAhead(Check check) {
        fault(check, "/", 0);
        fault(check, "  /1", 2);
        fault(check, "1//1", 2);
        fault(check, "1/ /1", 3);
        fault(check, "11/1/11", 4);
        fault(check, "1111/111/", 8);
        fault(check, "1111/1111/1111/111/", 18);
        fault(check, "11/11/", 6);
    }

    private static void behindTheFourthRow(Check check) {
        fault(check, "1/1/1/1/", 7);
        fault(check, "1/1/1/1/1", 7);
        fault(check, "1/1/1/1 /", 8);
        fault(check, "11/11/11/11/1", 11);
        fault(check, "1111/1111/1111/1111/", 19);
        fault(check, "1/1/1/1", NONE);
        fault(check, "1/1/1/", 6);
    }

    private static void endsTooEarly(Check check) {
        fault(check, "", 0);
        fault(check, " ", 1);
        fault(check, " ".repeat(40), 40);
        fault(check, "1/", 2);
        fault(check, "1/ ", 3);
        fault(check, "11/1", 4);
        fault(check, "1111/1111/1111/111", 18);
        fault(check, "1111/1111/1111/111" + " ".repeat(22), 40);
        fault(check, "1/1/1/", 6);
        fault(check, "1", NONE);
    }

    private static void appends(Check check) {
        RingPuzzle x = typed("12/3");
        check.due("fault()", x.fault(), 4);
        x.type('.');
        check.due("fault() behind one more", x.fault(), NONE);
        x.type('.');
        check.due("fault() behind one too many", x.fault(), 5);
        x.clearText();
        x.type('3');
        check.due("fault() of the first byte behind clearText()", x.fault(), NONE);
    }

    private static void letters(Check check) {
        RingPuzzle x = new RingPuzzle();
        check.due("the least byte", x.type(0), 1);
        check.due("the greatest byte", x.type(127), 2);
        for (int letter : new int[] {-1, 128, 255, 256, 256 + '3', -256 + '3', 65536 + '3', LEAST, GREATEST}) {
            check.due("type(" + letter + ")", x.type(letter), BAD);
        }
        check.due("the length behind them", x.count(15), 2);
    }

    private static void typeAnswers(Check check) {
        RingPuzzle x = new RingPuzzle();
        for (int length = 1; length <= 40; length++) {
            check.due("the length", x.type('.'), length);
        }
        check.due("at 40 bytes", x.type('.'), FULL);
        check.due("at 40 bytes, once more", x.type('.'), FULL);
        check.due("at 40 bytes, no byte", x.type(128), BAD);
        check.due("at 40 bytes, no byte", x.type(-1), BAD);
        x.clearText();
        check.due("behind clearText()", x.type('.'), 1);
        Twins.refused(check, () -> typed(FULL_TEXT), "type('1') at 40 bytes", y -> y.type('1'), FULL);
        Twins.refused(check, () -> typed("12"), "type(128)", y -> y.type(128), BAD);
    }

    private static void empties(Check check) {
        for (String text : new String[] {"", "1", GREAT, FULL_TEXT}) {
            RingPuzzle x = typed(text);
            x.clearText();
            check.due("the length", x.count(15), 0);
            check.due("the fault", x.fault(), 0);
            check.due("the first byte", x.type('2'), 1);
            check.due("the puzzle of it", x.setPuzzle(), 4);
            check.due("the count of it", x.countOf(0), 2);
        }
    }

    private static void clearAnswers(Check check) {
        check.due("of the empty text", typed("").clearText(), 0);
        check.due("of one byte", typed("x").clearText(), 1);
        check.due("of 40 bytes", typed(FULL_TEXT).clearText(), 40);
        RingPuzzle x = typed(FULL_TEXT + "1");
        check.due("of 40 bytes, and one that was refused", x.clearText(), 40);
        check.due("at once again", x.clearText(), 0);
    }

    private static void faultAnswers(Check check) {
        check.due("the first byte", typed("x").fault(), 0);
        check.due("the last of 40 bytes", typed(" ".repeat(39) + "x").fault(), 39);
        check.due("the length of the empty text", typed("").fault(), 0);
        check.due("the length of 40 bytes", typed(" ".repeat(40)).fault(), 40);
        check.due("no fault", typed("1").fault(), NONE);
        check.due("no fault of 40 bytes", typed(FULL_TEXT).fault(), NONE);
    }

    private static void allOpen(Check check) {
        RingPuzzle x = Puzzles.of("3333/3333/3333/3333");
        for (int edge = 0; edge < 40; edge++) {
            x.mark(edge, 1 + edge % 2);
        }
        x.clearText();
        Puzzles.typeAll(x, "1./.2");
        check.due("setPuzzle()", x.setPuzzle(), 12);
        check.holds("nothing is left of a greater one: " + Puzzles.state(x),
                Puzzles.state(x).equals("2x2 1..2 ............ 0 0 0 0 0 0 0 0"));
        check.due("misfit(3)", x.misfit(3), 1);
        x.clearText();
        Puzzles.typeAll(x, GREAT);
        check.due("setPuzzle()", x.setPuzzle(), 40);
        check.due("open edges of a greater one", x.count(3), 40);
        check.due("counts of a greater one", x.count(5), 1);
        x.mark(5, 1);
        check.due("setPuzzle() again", x.setPuzzle(), 40);
        check.due("open edges of the same again", x.count(3), 40);
    }

    private static void noneCounted(Check check) {
        RingPuzzle x = Puzzles.of("33");
        x.deduceAll(7);
        check.holds("some are counted", !Puzzles.made(x).equals("0 0 0 0 0 0 0 0"));
        x.setPuzzle();
        check.holds("none is counted: " + Puzzles.made(x), Puzzles.made(x).equals("0 0 0 0 0 0 0 0"));
        x.deduce();
        check.holds("one is counted: " + Puzzles.made(x), Puzzles.made(x).equals("0 0 0 0 0 0 0 1"));
        x.clearText();
        check.due("setPuzzle() that is refused", x.setPuzzle(), STATE);
        check.holds("it is still counted: " + Puzzles.made(x), Puzzles.made(x).equals("0 0 0 0 0 0 0 1"));
    }

    private static void textStays(Check check) {
        RingPuzzle x = typed(FULL_TEXT);
        x.setPuzzle();
        check.due("40 bytes", x.count(15), 40);
        check.due("fault()", x.fault(), NONE);
        check.due("the same puzzle again", x.setPuzzle(), 40);
        x = typed("11/1");
        x.setPuzzle();
        check.due("the length of a text with a fault", x.count(15), 4);
        x.type('1');
        check.due("it goes on behind that", x.setPuzzle(), 12);
    }

    private static void puzzleAnswers(Check check) {
        check.due("the least grid", typed("1").setPuzzle(), 4);
        check.due("the widest one of one row", typed("....").setPuzzle(), 13);
        check.due("the highest one of one column", typed("./././.").setPuzzle(), 13);
        check.due("the greatest grid", typed(GREAT).setPuzzle(), 40);
        for (String text : new String[] {"", "x", "1x", "1/", "11/1", "11111", "1/1/1/1/", "/", " ".repeat(40)}) {
            Twins.refused(check, () -> typed(text), "setPuzzle() of \"" + text + "\"", y -> y.setPuzzle(), STATE);
            Twins.refused(check, () -> marked(text), "setPuzzle() of \"" + text + "\"", y -> y.setPuzzle(), STATE);
        }
    }

    /** A full history, marks and deductions, and then a text. */
    private static RingPuzzle marked(String text) {
        RingPuzzle x = Puzzles.with(Puzzles.of("3./.."), "d 11 o 4");
        x.deduceAll(7);
        for (int change = 0; change < 8; change++) {
            x.setCount(2, change % 4);
        }
        x.clearText();
        Puzzles.typeAll(x, text);
        return x;
    }
}
