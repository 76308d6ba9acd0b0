import java.util.List;

/** Each promise by hand: ordinary inputs, the edges that the document names, wrong inputs. */
public final class PromisesTest {
    private static final int BAD_ARG = -1;
    private static final int FULL = -2;
    private static final int TOO_FEW = -3;
    private static final int NONE = -4;
    private static final int OPEN = 2;
    private static final int LEAST = Integer.MIN_VALUE;
    private static final int MOST = Integer.MAX_VALUE;
    private static final Checks checks = new Checks();
    private static final Expressions expressions = new Expressions(checks);

    public static void main(String[] args) {
        newObject();
        sizes();
        letter();
        letterLimits();
        unit();
        cat();
        alt();
        star();
        reverse();
        setLine();
        depthAndLetters();
        freeLine();
        pin();
        fillings();
        filling();
        below();
        forced();
        lineWords();
        checks.end();
    }

    private static void due(String call, long got, long want) {
        checks.due(call, got, want);
    }

    private static void push(ExprCrossword x, String postfix) {
        expressions.push(x, postfix);
    }

    private static void language(String postfix, String... words) {
        expressions.language(postfix, List.of(words));
    }

    private static void emptyWord(String postfix, boolean in) {
        expressions.emptyWord(postfix, in);
    }

    private static void newObject() {
        ExprCrossword x = new ExprCrossword(3, 4);
        due("new depth()", x.depth(), 0);
        due("new letters()", x.letters(), 0);
        due("new fillings()", x.fillings(), 4096);
        for (int r = 0; r < 3; r++) {
            for (int c = 0; c < 4; c++) {
                due("new pinned", x.pinned(r, c), OPEN);
                due("new forced", x.forced(r, c), OPEN);
            }
        }
        for (int line = 0; line < 7; line++) {
            due("new lineWords(" + line + ")", x.lineWords(line), line < 3 ? 16 : 8);
        }
    }

    private static void sizes() {
        int[] asked = {LEAST, -1, 0, 1, 2, 3, 4, 5, MOST};
        for (int rows : asked) {
            for (int columns : asked) {
                int r = Math.max(1, Math.min(3, rows));
                int c = Math.max(1, Math.min(4, columns));
                String name = "of " + rows + " x " + columns + " ";
                ExprCrossword x = new ExprCrossword(rows, columns);
                due(name + "fillings", x.fillings(), 1 << (r * c));
                due(name + "last cell", x.pinned(r - 1, c - 1), OPEN);
                due(name + "row too far", x.pinned(r, 0), BAD_ARG);
                due(name + "column too far", x.pinned(0, c), BAD_ARG);
                due(name + "last line", x.lineWords(r + c - 1), 1 << r);
                due(name + "line too far", x.lineWords(r + c), BAD_ARG);
            }
        }
    }

    private static void letter() {
        language("0", "0");
        language("1", "1");
        language("2", "0", "1");
        emptyWord("0", false);
        emptyWord("1", false);
        emptyWord("2", false);
    }

    private static void letterLimits() {
        ExprCrossword x = new ExprCrossword(1, 1);
        for (int c : new int[] {LEAST, -1, 3, MOST}) {
            due("letter(" + c + ")", x.letter(c), BAD_ARG);
        }
        due("depth() after bad letters", x.depth(), 0);
        push(x, "eeeee");
        due("letter(0), the sixth", x.letter(0), 6);
        due("letter(0), the seventh", x.letter(0), FULL);
        due("letter(3) on a full stack", x.letter(3), BAD_ARG);
        due("letter(-1) on a full stack", x.letter(-1), BAD_ARG);
        due("depth() of a full stack", x.depth(), 6);
        due("letters() of a full stack", x.letters(), 1);

        ExprCrossword y = new ExprCrossword(1, 1);
        push(y, "01.1.0.1.1.2.");
        due("letters()", y.letters(), 7);
        due("the eighth letter", y.letter(2), 2);
        due("the ninth letter", y.letter(2), FULL);
        due("the ninth letter, 0", y.letter(0), FULL);
        due("letter(3) with 8 letters", y.letter(3), BAD_ARG);
        due("letters() at the limit", y.letters(), 8);
        due("depth() at the limit of letters", y.depth(), 2);
        due("unit() at the limit of letters", y.unit(), 3);
        due("setLine(0)", y.setLine(0), 2);
        due("letter with 8 letters still", y.letter(1), FULL);
        due("setLine(0)", y.setLine(0), 1);
        due("letter when there is room again", y.letter(1), 2);
    }

    private static void unit() {
        language("e");
        emptyWord("e", true);
        ExprCrossword x = new ExprCrossword(2, 2);
        for (int n = 1; n <= 6; n++) {
            due("unit()", x.unit(), n);
        }
        due("unit() on a full stack", x.unit(), FULL);
        due("depth()", x.depth(), 6);
        due("letters()", x.letters(), 0);
    }

    private static void cat() {
        language("01.", "01");
        language("10.", "10");
        language("22.", "00", "01", "10", "11");
        language("012..", "010", "011");
        language("01.2.", "010", "011");
        language("01.10..", "0110");
        language("01.1.0.1.");
        language("e1.", "1");
        language("1e.", "1");
        language("0e|1.", "1", "01");
        language("10e|.", "1", "10");
        language("0*1.", "1", "01", "001", "0001");
        language("10*.", "1", "10", "100", "1000");
        language("0*1.0*.", "1", "01", "10", "001", "010", "100", "0001", "0010", "0100", "1000");
        emptyWord("ee.", true);
        emptyWord("e0.", false);
        emptyWord("0*1*.", true);
        ExprCrossword x = new ExprCrossword(1, 2);
        due("cat() of none", x.cat(), TOO_FEW);
        push(x, "1");
        due("cat() of one", x.cat(), TOO_FEW);
        due("depth()", x.depth(), 1);
        due("letters()", x.letters(), 1);
        push(x, "01");
        due("cat() of three", x.cat(), 2);
        due("letters()", x.letters(), 3);
        due("setLine(0)", x.setLine(0), 1);
        due("filling(0)", x.filling(0), 1);
        due("setLine(1)", x.setLine(1), 0);
        due("fillings()", x.fillings(), 0);
    }

    private static void alt() {
        language("01|", "0", "1");
        language("00|", "0");
        language("001.|", "0", "01");
        language("01.0|", "0", "01");
        language("0e|", "0");
        language("01.10.|1.1.", "0111", "1011");
        emptyWord("0e|", true);
        emptyWord("e0|", true);
        emptyWord("01|", false);
        ExprCrossword x = new ExprCrossword(1, 1);
        due("alt() of none", x.alt(), TOO_FEW);
        push(x, "0");
        due("alt() of one", x.alt(), TOO_FEW);
        due("depth()", x.depth(), 1);
        push(x, "11");
        due("alt() of three", x.alt(), 2);
        due("letters()", x.letters(), 3);
        due("setLine(0)", x.setLine(0), 1);
        due("filling(0)", x.filling(0), 1);
        due("fillings()", x.fillings(), 1);
    }

    private static void star() {
        language("0*", "0", "00", "000", "0000");
        language("01.*", "01", "0101");
        language("001.|*", "0", "00", "01", "000", "001", "010",
            "0000", "0001", "0010", "0100", "0101");
        language("01.0.1|*", "1", "11", "010", "111", "0101", "1010", "1111");
        language("2*", "0", "1", "00", "01", "10", "11", "000", "001", "010", "011", "100", "101",
            "110", "111", "0000", "0001", "0010", "0011", "0100", "0101", "0110", "0111", "1000",
            "1001", "1010", "1011", "1100", "1101", "1110", "1111");
        language("1**", "1", "11", "111", "1111");
        language("e*");
        language("1e|*", "1", "11", "111", "1111");
        language("11.*0.", "0", "110");
        emptyWord("0*", true);
        emptyWord("e*", true);
        emptyWord("01.*", true);
        ExprCrossword x = new ExprCrossword(1, 1);
        due("star() of none", x.star(), TOO_FEW);
        push(x, "01");
        due("star() of two", x.star(), 2);
        due("letters()", x.letters(), 2);
    }

    private static void reverse() {
        language("01.~", "10");
        language("01.1.~", "110");
        language("01.1.1.~", "1110");
        language("00.1.1.2.~");
        language("00.1.2.~", "0100", "1100");
        language("0~", "0");
        language("e~");
        language("01.~~", "01");
        language("01.~1.", "101");
        language("0*1.~", "1", "10", "100", "1000");
        language("011.|~", "0", "11");
        emptyWord("e~", true);
        emptyWord("0*~", true);
        emptyWord("0~", false);
        ExprCrossword x = new ExprCrossword(1, 2);
        due("reverse() of none", x.reverse(), TOO_FEW);
        push(x, "01.01.");
        due("reverse() of two", x.reverse(), 2);
        due("letters()", x.letters(), 4);
        due("setLine(0)", x.setLine(0), 1);
        due("filling(0)", x.filling(0), 2);
        due("setLine(0)", x.setLine(0), 0);
        due("filling(0)", x.filling(0), 1);
    }

    private static void setLine() {
        ExprCrossword x = new ExprCrossword(2, 3);
        int[] wrong = {LEAST, -1, 5, 6, MOST};
        for (int line : wrong) {
            due("setLine(" + line + ") on an empty stack", x.setLine(line), BAD_ARG);
        }
        due("setLine(0) on an empty stack", x.setLine(0), TOO_FEW);
        due("setLine(4) on an empty stack", x.setLine(4), TOO_FEW);
        due("fillings()", x.fillings(), 64);
        push(x, "01.");
        for (int line : wrong) {
            due("setLine(" + line + ")", x.setLine(line), BAD_ARG);
        }
        due("depth()", x.depth(), 1);
        due("letters()", x.letters(), 2);
        // Two letters fit the columns alone: column 1 is line 2 + 1.
        due("setLine(3)", x.setLine(3), 0);
        due("letters()", x.letters(), 0);
        due("forced(0, 1)", x.forced(0, 1), 0);
        due("forced(1, 1)", x.forced(1, 1), 1);
        due("fillings()", x.fillings(), 16);
        push(x, "01.0.11.1.");
        due("setLine(0)", x.setLine(0), 1);
        due("fillings() against the column", x.fillings(), 0);
        due("setLine(0) again", x.setLine(0), 0);
        due("lineWords(0)", x.lineWords(0), 1);
        due("fillings() against the column", x.fillings(), 0);
        push(x, "10.1.");
        due("setLine(0), the third time", x.setLine(0), 0);
        due("filling(0)", x.filling(0), 0b101010);
        due("fillings()", x.fillings(), 4);
        push(x, "00.");
        due("setLine(4)", x.setLine(4), 0);
        due("fillings()", x.fillings(), 0);
    }

    private static void depthAndLetters() {
        ExprCrossword x = new ExprCrossword(3, 4);
        push(x, "01e");
        due("depth()", x.depth(), 3);
        due("letters()", x.letters(), 2);
        push(x, ".");
        due("letters() after cat", x.letters(), 2);
        push(x, "*~");
        due("letters() after star and reverse", x.letters(), 2);
        push(x, "|");
        due("depth() after alt", x.depth(), 1);
        due("letters() after alt", x.letters(), 2);
        push(x, "22.");
        due("letters()", x.letters(), 4);
        push(x, "e");
        due("setLine(0)", x.setLine(0), 2);
        due("letters() after a unit was taken", x.letters(), 4);
        due("setLine(0)", x.setLine(0), 1);
        due("letters() after two letters were taken", x.letters(), 2);
        due("setLine(0)", x.setLine(0), 0);
        due("letters() of an empty stack", x.letters(), 0);
        due("depth() of an empty stack", x.depth(), 0);
        push(x, "01.1.12.2.e");
        due("letters() of many", x.letters(), 6);
        push(x, "..");
        due("letters() of one", x.letters(), 6);
        due("depth() of one", x.depth(), 1);
        due("setLine(6)", x.setLine(6), 0);
        due("letters()", x.letters(), 0);
    }

    private static void freeLine() {
        ExprCrossword x = new ExprCrossword(2, 3);
        for (int line = 0; line < 5; line++) {
            push(x, "e");
            x.setLine(line);
            due("lineWords of none", x.lineWords(line), 0);
        }
        for (int line : new int[] {LEAST, -1, 5, MOST}) {
            due("freeLine(" + line + ")", x.freeLine(line), BAD_ARG);
        }
        for (int line = 0; line < 5; line++) {
            due("lineWords before", x.lineWords(line), 0);
            due("fillings() before", x.fillings(), 0);
            due("freeLine(" + line + ")", x.freeLine(line), 0);
            due("lineWords after", x.lineWords(line), line < 2 ? 8 : 4);
        }
        due("fillings() when all are free", x.fillings(), 64);
        due("freeLine of a free line", x.freeLine(0), 0);
        x.pin(0, 0, 1);
        push(x, "0");
        due("freeLine(0)", x.freeLine(0), 0);
        due("pins stay", x.pinned(0, 0), 1);
        due("the stack stays", x.depth(), 1);
        due("fillings()", x.fillings(), 32);
    }

    private static void pin() {
        ExprCrossword x = new ExprCrossword(2, 3);
        int[][] wrong = {
            {-1, 0, 0}, {2, 0, 0}, {0, -1, 0}, {0, 3, 0}, {0, 0, -1}, {0, 0, 3},
            {LEAST, 0, 1}, {MOST, 0, 1}, {0, LEAST, 1}, {0, MOST, 1}, {0, 0, LEAST}, {0, 0, MOST},
        };
        for (int[] w : wrong) {
            due("pin(" + w[0] + ", " + w[1] + ", " + w[2] + ")", x.pin(w[0], w[1], w[2]), BAD_ARG);
        }
        int[][] noCell = {{-1, 0}, {2, 0}, {0, -1}, {0, 3}, {LEAST, 0}, {MOST, 0}, {0, LEAST}, {0, MOST}};
        for (int[] n : noCell) {
            due("pinned(" + n[0] + ", " + n[1] + ")", x.pinned(n[0], n[1]), BAD_ARG);
        }
        due("fillings() after wrong pins", x.fillings(), 64);
        due("pin(1, 0, 1)", x.pin(1, 0, 1), OPEN);
        due("pinned(1, 0)", x.pinned(1, 0), 1);
        due("pinned(0, 1)", x.pinned(0, 1), OPEN);
        due("pinned(0, 2)", x.pinned(0, 2), OPEN);
        due("fillings()", x.fillings(), 32);
        due("filling(0)", x.filling(0), 4);
        due("pin(1, 0, 3)", x.pin(1, 0, 3), BAD_ARG);
        due("pinned(1, 0) after a wrong pin", x.pinned(1, 0), 1);
        due("pin(1, 0, 0)", x.pin(1, 0, 0), 1);
        due("pinned(1, 0)", x.pinned(1, 0), 0);
        due("filling(4)", x.filling(4), 8);
        due("pin(1, 0, 0) again", x.pin(1, 0, 0), 0);
        due("pin(1, 0, 2)", x.pin(1, 0, 2), 0);
        due("pinned(1, 0)", x.pinned(1, 0), OPEN);
        due("pin(1, 0, 2) again", x.pin(1, 0, 2), OPEN);
        due("fillings()", x.fillings(), 64);
        due("pin(1, 2, 1)", x.pin(1, 2, 1), OPEN);
        due("filling(0)", x.filling(0), 1);
    }

    /** The two Latin squares of 0 and 1: every row and column is 01 or 10. */
    private static ExprCrossword latinSquare() {
        ExprCrossword x = new ExprCrossword(2, 2);
        for (int line = 0; line < 4; line++) {
            push(x, "01.10.|");
            x.setLine(line);
        }
        return x;
    }

    private static void fillings() {
        ExprCrossword x = latinSquare();
        due("fillings()", x.fillings(), 2);
        x.pin(0, 0, 1);
        due("fillings() with a pin", x.fillings(), 1);
        x.pin(1, 1, 0);
        due("fillings() with pins that contradict", x.fillings(), 0);
        x.pin(1, 1, 1);
        due("fillings() with pins that agree", x.fillings(), 1);
        x.freeLine(0);
        x.freeLine(2);
        due("fillings() with a free row and column", x.fillings(), 1);
        x.pin(0, 0, OPEN);
        due("fillings() with a free cell", x.fillings(), 2);
        push(x, "00.");
        due("what is on the stack alone doesn't count", x.fillings(), 2);
    }

    private static void filling() {
        ExprCrossword x = latinSquare();
        due("filling(-1)", x.filling(-1), BAD_ARG);
        due("filling(LEAST)", x.filling(LEAST), BAD_ARG);
        due("filling(0)", x.filling(0), 0b0110);
        due("filling(1)", x.filling(1), 0b1001);
        due("filling(2)", x.filling(2), NONE);
        due("filling(MOST)", x.filling(MOST), NONE);
        x.pin(0, 0, 1);
        due("filling(0) with a pin", x.filling(0), 0b1001);
        due("filling(1) with a pin", x.filling(1), NONE);
        x.pin(0, 1, 1);
        due("filling(0) of none", x.filling(0), NONE);
        due("filling(-1) of none", x.filling(-1), BAD_ARG);
        ExprCrossword y = new ExprCrossword(3, 4);
        for (int k : new int[] {0, 1, 2, 2047, 4094, 4095}) {
            due("filling(" + k + ") of all", y.filling(k), k);
        }
        due("filling(4096) of all", y.filling(4096), NONE);
    }

    private static void below() {
        ExprCrossword x = latinSquare();
        int[] bounds = {LEAST, -1, 0, 1, 6, 7, 9, 10, 15, 16, 17, MOST};
        int[] counts = {0, 0, 0, 0, 0, 1, 1, 2, 2, 2, 2, 2};
        for (int i = 0; i < bounds.length; i++) {
            due("below(" + bounds[i] + ")", x.below(bounds[i]), counts[i]);
        }
        ExprCrossword y = new ExprCrossword(3, 4);
        due("below(-5) of all", y.below(-5), 0);
        due("below(0) of all", y.below(0), 0);
        due("below(1) of all", y.below(1), 1);
        due("below(4095) of all", y.below(4095), 4095);
        due("below(4096) of all", y.below(4096), 4096);
        due("below(4097) of all", y.below(4097), 4096);
        due("below(MOST) of all", y.below(MOST), 4096);
    }

    private static void forced() {
        ExprCrossword x = latinSquare();
        for (int cell = 0; cell < 4; cell++) {
            due("forced of a cell that is open", x.forced(cell / 2, cell % 2), OPEN);
        }
        x.pin(0, 0, 1);
        due("forced(0, 0)", x.forced(0, 0), 1);
        due("forced(0, 1)", x.forced(0, 1), 0);
        due("forced(1, 0)", x.forced(1, 0), 0);
        due("forced(1, 1)", x.forced(1, 1), 1);
        due("forced doesn't pin", x.pinned(0, 1), OPEN);
        x.pin(0, 1, 1);
        int[][] noCell = {{-1, 0}, {2, 0}, {0, -1}, {0, 2}, {LEAST, 0}, {MOST, 0}, {0, LEAST}, {0, MOST}};
        for (int pass = 0; pass < 2; pass++) {
            for (int[] n : noCell) {
                due("forced(" + n[0] + ", " + n[1] + ")", x.forced(n[0], n[1]), BAD_ARG);
            }
            due("forced(0, 0)", x.forced(0, 0), pass == 0 ? NONE : OPEN);
            x.pin(0, 0, OPEN);
            x.pin(0, 1, OPEN);
        }
    }

    private static void lineWords() {
        ExprCrossword x = new ExprCrossword(2, 3);
        for (int line : new int[] {LEAST, -1, 5, 6, MOST}) {
            due("lineWords(" + line + ")", x.lineWords(line), BAD_ARG);
        }
        push(x, "0*1.0*.");
        due("setLine(0)", x.setLine(0), 0);
        due("lineWords(0)", x.lineWords(0), 3);
        due("lineWords(1) of a free row", x.lineWords(1), 8);
        due("lineWords(2) of a free column", x.lineWords(2), 4);
        x.pin(0, 1, 0);
        due("lineWords(0) with a pin", x.lineWords(0), 2);
        due("lineWords(1) with a pin elsewhere", x.lineWords(1), 8);
        due("lineWords(3) of the pinned column", x.lineWords(3), 2);
        due("lineWords(2) of another column", x.lineWords(2), 4);
        x.pin(0, 1, 1);
        due("lineWords(0) with the 1 pinned", x.lineWords(0), 1);
        x.pin(0, 0, 1);
        due("lineWords(0) with two pinned", x.lineWords(0), 0);
        due("fillings()", x.fillings(), 0);
        due("lineWords(1), whatever the other lines say", x.lineWords(1), 8);
        due("lineWords(4), whatever the other lines say", x.lineWords(4), 4);
        push(x, "00.11.|01.|");
        due("setLine(4)", x.setLine(4), 0);
        due("lineWords(4)", x.lineWords(4), 3);
        x.pin(1, 2, 0);
        due("lineWords(4) with a pin", x.lineWords(4), 1);
        x.pin(1, 2, 1);
        due("lineWords(4) with the other pin", x.lineWords(4), 2);
    }
}
