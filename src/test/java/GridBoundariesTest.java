import java.util.Set;

/**
 * The boundary cases of the grid, its lines and its pins, promises 1, 11 to 13 and 18: each
 * sentence has a test of its own.
 */
public final class GridBoundariesTest {
    private static final int BAD_ARG = -1;
    private static final int OPEN = 2;
    private static final int[] TOO_SMALL = {0, -1, -2, -3, -4, -256, Integer.MIN_VALUE + 1, Integer.MIN_VALUE};
    private static final int[] TOO_LARGE = {
        5, 6, 7, 8, 12, 13, 31, 32, 33, 256, 257, 65537, 1 << 30, Integer.MAX_VALUE - 1, Integer.MAX_VALUE,
    };
    private static final int[] NO_LETTER = {
        -1, -2, 3, 4, 5, 256, 257, 258, 65536, Integer.MIN_VALUE, Integer.MIN_VALUE + 1, Integer.MAX_VALUE,
    };
    private static final Checks checks = new Checks();
    private static final Expressions expressions = new Expressions(checks);

    public static void main(String[] args) {
        newObject();
        lines();
        freeLine();
        pin();
        pinned();
        lineWords();
        checks.end();
    }

    private static void due(String call, long got, long want) {
        checks.due(call, got, want);
    }

    /** The object is new and has the size. */
    private static void isNew(String name, ExprCrossword x, Sizes size) {
        due(name + " depth()", x.depth(), 0);
        due(name + " letters()", x.letters(), 0);
        for (int r = -1; r <= 5; r++) {
            for (int c = -1; c <= 5; c++) {
                boolean cell = r >= 0 && r < size.rows() && c >= 0 && c < size.columns();
                due(name + " pinned(" + r + ", " + c + ")", x.pinned(r, c), cell ? OPEN : BAD_ARG);
                due(name + " forced(" + r + ", " + c + ")", x.forced(r, c), cell ? OPEN : BAD_ARG);
            }
        }
        for (int line = -1; line <= 10; line++) {
            due(name + " lineWords(" + line + ")", x.lineWords(line),
                line < 0 || line >= size.lines() ? BAD_ARG : size.words(line));
        }
        due(name + " fillings()", x.fillings(), size.numbers());
        due(name + " the last filling", x.filling(size.numbers() - 1), size.numbers() - 1);
    }

    private static void newObject() {
        checks.sentence("1: the stack is empty, no cell is pinned, every line has all words", () -> {
            for (Sizes size : Sizes.ALL) {
                isNew(size.toString(), size.make(), size);
            }
        });
        checks.sentence("1: rows below 1 becomes 1", () -> {
            for (int columns = 1; columns <= 4; columns++) {
                for (int rows : TOO_SMALL) {
                    isNew(rows + " x " + columns, new ExprCrossword(rows, columns), new Sizes(1, columns));
                }
            }
        });
        checks.sentence("1: rows above 3 becomes 3", () -> {
            for (int columns = 1; columns <= 4; columns++) {
                isNew("4 x " + columns, new ExprCrossword(4, columns), new Sizes(3, columns));
                for (int rows : TOO_LARGE) {
                    isNew(rows + " x " + columns, new ExprCrossword(rows, columns), new Sizes(3, columns));
                }
            }
        });
        checks.sentence("1: columns below 1 becomes 1", () -> {
            for (int rows = 1; rows <= 3; rows++) {
                for (int columns : TOO_SMALL) {
                    isNew(rows + " x " + columns, new ExprCrossword(rows, columns), new Sizes(rows, 1));
                }
            }
        });
        checks.sentence("1: columns above 4 becomes 4", () -> {
            for (int rows = 1; rows <= 3; rows++) {
                for (int columns : TOO_LARGE) {
                    isNew(rows + " x " + columns, new ExprCrossword(rows, columns), new Sizes(rows, 4));
                }
            }
        });
        checks.sentence("1: rows and columns both out of their range", () -> {
            for (int small : TOO_SMALL) {
                isNew(small + " x " + small, new ExprCrossword(small, small), new Sizes(1, 1));
                for (int large : TOO_LARGE) {
                    isNew(small + " x " + large, new ExprCrossword(small, large), new Sizes(1, 4));
                    isNew(large + " x " + small, new ExprCrossword(large, small), new Sizes(3, 1));
                }
            }
            for (int large : TOO_LARGE) {
                isNew(large + " x " + large, new ExprCrossword(large, large), new Sizes(3, 4));
            }
        });
        checks.sentence("1: an object that is made later is new, whatever an earlier one was used for", () -> {
            ExprCrossword used = new ExprCrossword(3, 4);
            used.pin(0, 0, 1);
            expressions.set(used, 0, "e");
            expressions.push(used, "01.e");
            isNew("the later one", new ExprCrossword(3, 4), new Sizes(3, 4));
            due("depth() of the earlier one", used.depth(), 2);
            due("letters() of the earlier one", used.letters(), 2);
            due("pinned(0, 0) of the earlier one", used.pinned(0, 0), 1);
            due("fillings() of the earlier one", used.fillings(), 0);
        });
    }

    private static void lines() {
        checks.sentence("Terms: row r is line r, its word is its C cells from column 0 on", () -> {
            for (Sizes size : Sizes.ALL) {
                for (int r = 0; r < size.rows(); r++) {
                    // 1 and then zeros: the first cell of the row and no other.
                    ExprCrossword x = size.make();
                    expressions.set(x, r, "10*.");
                    for (int cell = 0; cell < size.cells(); cell++) {
                        int row = cell / size.columns();
                        int column = cell % size.columns();
                        due(size + " row " + r + " forced(" + row + ", " + column + ")", x.forced(row, column),
                            row != r ? OPEN : column == 0 ? 1 : 0);
                    }
                }
            }
        });
        checks.sentence("Terms: column c is line R + c, its word is its R cells from row 0 on", () -> {
            for (Sizes size : Sizes.ALL) {
                for (int c = 0; c < size.columns(); c++) {
                    ExprCrossword x = size.make();
                    expressions.set(x, size.rows() + c, "10*.");
                    for (int cell = 0; cell < size.cells(); cell++) {
                        int row = cell / size.columns();
                        int column = cell % size.columns();
                        due(size + " column " + c + " forced(" + row + ", " + column + ")", x.forced(row, column),
                            column != c ? OPEN : row == 0 ? 1 : 0);
                    }
                }
            }
        });
    }

    /** Every line has the one word of ones. */
    private static ExprCrossword allOnes(Sizes size) {
        ExprCrossword x = size.make();
        for (int line = 0; line < size.lines(); line++) {
            expressions.set(x, line, "11*.");
        }
        return x;
    }

    private static void freeLine() {
        checks.sentence("11: BAD_ARG if line is not 0 to R + C - 1", () -> {
            for (Sizes size : Sizes.ALL) {
                ExprCrossword x = allOnes(size);
                for (int line : size.noLines()) {
                    due(size + " freeLine(" + line + ")", x.freeLine(line), BAD_ARG);
                }
                for (int line = 0; line < size.lines(); line++) {
                    due(size + " lineWords(" + line + ")", x.lineWords(line), 1);
                }
            }
        });
        checks.sentence("11: else 0, and the language of that line alone is the set of all words", () -> {
            for (Sizes size : Sizes.ALL) {
                for (int line = 0; line < size.lines(); line++) {
                    ExprCrossword x = allOnes(size);
                    due(size + " freeLine(" + line + ")", x.freeLine(line), 0);
                    for (int other = 0; other < size.lines(); other++) {
                        due(size + " lineWords(" + other + ")", x.lineWords(other),
                            other == line ? size.words(line) : 1);
                    }
                }
            }
        });
        checks.sentence("11: else 0, for a line that is free already, too", () -> {
            for (Sizes size : Sizes.ALL) {
                ExprCrossword x = size.make();
                for (int line = 0; line < size.lines(); line++) {
                    due(size + " freeLine(" + line + ")", x.freeLine(line), 0);
                    due(size + " freeLine(" + line + ") again", x.freeLine(line), 0);
                }
                isNew(size.toString(), x, size);
            }
        });
    }

    private static void pin() {
        checks.sentence("12: BAD_ARG if r is not 0 to R - 1", () -> {
            for (Sizes size : Sizes.ALL) {
                noPins(size, size.noRows(), size.columnNumbers());
            }
        });
        checks.sentence("12: BAD_ARG if c is not 0 to C - 1", () -> {
            for (Sizes size : Sizes.ALL) {
                noPins(size, size.rowNumbers(), size.noColumns());
            }
        });
        checks.sentence("12: BAD_ARG if r and c are both wrong, though they might count to a cell", () -> {
            for (Sizes size : Sizes.ALL) {
                noPins(size, size.noRows(), size.noColumns());
            }
        });
        checks.sentence("12: BAD_ARG if v is not 0 to 2", () -> {
            for (Sizes size : Sizes.ALL) {
                for (int cell = 0; cell < size.cells(); cell++) {
                    int r = cell / size.columns();
                    int c = cell % size.columns();
                    ExprCrossword x = size.make();
                    for (int before : new int[] {OPEN, 1, 0}) {
                        x.pin(r, c, before);
                        for (int v : NO_LETTER) {
                            due(size + " pin(" + r + ", " + c + ", " + v + ")", x.pin(r, c, v), BAD_ARG);
                        }
                        due(size + " pinned(" + r + ", " + c + ")", x.pinned(r, c), before);
                    }
                }
            }
        });
        checks.sentence("12: pins 0 or 1 or takes the pin away, and answers what was before", () -> {
            for (Sizes size : Sizes.ALL) {
                for (int cell = 0; cell < size.cells(); cell++) {
                    int r = cell / size.columns();
                    int c = cell % size.columns();
                    ExprCrossword x = size.make();
                    int before = OPEN;
                    for (int v : new int[] {OPEN, 0, 0, 1, 1, 0, OPEN, 1, OPEN, OPEN}) {
                        due(size + " pin(" + r + ", " + c + ", " + v + ")", x.pin(r, c, v), before);
                        due(size + " pinned(" + r + ", " + c + ")", x.pinned(r, c), v);
                        due(size + " forced(" + r + ", " + c + ")", x.forced(r, c), v);
                        due(size + " fillings()", x.fillings(), size.numbers() >> (v == OPEN ? 0 : 1));
                        before = v;
                    }
                }
            }
        });
        checks.sentence("12: a pin that contradicts the lines is pinned all the same", () -> {
            for (Sizes size : Sizes.ALL) {
                ExprCrossword x = allOnes(size);
                due(size + " pin(0, 0, 0)", x.pin(0, 0, 0), OPEN);
                due(size + " pinned(0, 0)", x.pinned(0, 0), 0);
                due(size + " fillings()", x.fillings(), 0);
                due(size + " pin(0, 0, 2)", x.pin(0, 0, OPEN), 0);
                due(size + " fillings()", x.fillings(), 1);
            }
        });
    }

    private static void noPins(Sizes size, Set<Integer> wrongRows, Set<Integer> wrongColumns) {
        for (int r : wrongRows) {
            ExprCrossword x = size.make();
            for (int c : wrongColumns) {
                for (int v = 0; v <= 2; v++) {
                    due(size + " pin(" + r + ", " + c + ", " + v + ")", x.pin(r, c, v), BAD_ARG);
                }
            }
            isNew(size + " after wrong pins", x, size);
        }
    }

    private static void pinned() {
        checks.sentence("13: BAD_ARG if there is no such row", () -> {
            for (Sizes size : Sizes.ALL) {
                notPinned(size, size.noRows(), size.columnNumbers());
            }
        });
        checks.sentence("13: BAD_ARG if there is no such column", () -> {
            for (Sizes size : Sizes.ALL) {
                notPinned(size, size.rowNumbers(), size.noColumns());
            }
        });
        checks.sentence("13: BAD_ARG if there is neither, though they might count to a cell", () -> {
            for (Sizes size : Sizes.ALL) {
                notPinned(size, size.noRows(), size.noColumns());
            }
        });
        checks.sentence("13: the letter pinned to the cell, or OPEN: every cell has its own", () -> {
            for (Sizes size : Sizes.ALL) {
                for (int one = 0; one < size.cells(); one++) {
                    for (int v = 0; v <= 1; v++) {
                        ExprCrossword x = size.make();
                        x.pin(one / size.columns(), one % size.columns(), v);
                        for (int cell = 0; cell < size.cells(); cell++) {
                            due(size + " pinned of cell " + cell,
                                x.pinned(cell / size.columns(), cell % size.columns()), cell == one ? v : OPEN);
                        }
                    }
                }
            }
        });
        checks.sentence("13: every cell can be pinned at once", () -> {
            for (Sizes size : Sizes.ALL) {
                for (int v = 0; v <= 1; v++) {
                    ExprCrossword x = pinnedAll(size, v);
                    for (int cell = 0; cell < size.cells(); cell++) {
                        due(size + " pinned of cell " + cell,
                            x.pinned(cell / size.columns(), cell % size.columns()), v);
                    }
                    due(size + " fillings()", x.fillings(), 1);
                    due(size + " filling(0)", x.filling(0), v * (size.numbers() - 1));
                }
            }
        });
    }

    private static ExprCrossword pinnedAll(Sizes size, int v) {
        ExprCrossword x = size.make();
        for (int cell = 0; cell < size.cells(); cell++) {
            due(size + " pin", x.pin(cell / size.columns(), cell % size.columns(), v), OPEN);
        }
        return x;
    }

    private static void notPinned(Sizes size, Set<Integer> wrongRows, Set<Integer> wrongColumns) {
        for (int v = 0; v <= 2; v++) {
            for (int r : wrongRows) {
                ExprCrossword x = size.make();
                x.pin(0, 0, v);
                for (int c : wrongColumns) {
                    due(size + " pinned(" + r + ", " + c + ")", x.pinned(r, c), BAD_ARG);
                }
            }
        }
    }

    private static void lineWords() {
        checks.sentence("18: BAD_ARG if line is not 0 to R + C - 1", () -> {
            for (Sizes size : Sizes.ALL) {
                for (ExprCrossword x : new ExprCrossword[] {size.make(), allOnes(size), pinnedAll(size, 0)}) {
                    for (int line : size.noLines()) {
                        due(size + " lineWords(" + line + ")", x.lineWords(line), BAD_ARG);
                    }
                }
            }
        });
        checks.sentence("18: words of the line's length, C for a row, R for a column", () -> {
            for (Sizes size : Sizes.ALL) {
                for (int line = 0; line < size.lines(); line++) {
                    int length = line < size.rows() ? size.columns() : size.rows();
                    ExprCrossword x = size.make();
                    String[] ofLength = {"2", "22.", "22.2.", "22.2.2."};
                    for (int n = 1; n <= 4; n++) {
                        expressions.set(x, line, ofLength[n - 1]);
                        due(size + " lineWords(" + line + ") of length " + n, x.lineWords(line),
                            n == length ? 1 << n : 0);
                    }
                }
            }
        });
        checks.sentence("18: agree with the pins of the line's cells, from no pin to all pinned", () -> {
            for (Sizes size : Sizes.ALL) {
                for (int line = 0; line < size.lines(); line++) {
                    int length = line < size.rows() ? size.columns() : size.rows();
                    ExprCrossword x = size.make();
                    for (int place = 0; place < length; place++) {
                        due(size + " lineWords(" + line + ")", x.lineWords(line), 1 << (length - place));
                        int r = line < size.rows() ? line : place;
                        int c = line < size.rows() ? place : line - size.rows();
                        due(size + " pin", x.pin(r, c, place % 2), OPEN);
                    }
                    due(size + " lineWords(" + line + ") all pinned", x.lineWords(line), 1);
                    expressions.set(x, line, "11*.");
                    due(size + " lineWords(" + line + ") against the pins", x.lineWords(line), 0);
                }
            }
        });
        checks.sentence("18: whatever the other lines say", () -> {
            for (Sizes size : Sizes.ALL) {
                for (int line = 0; line < size.lines(); line++) {
                    ExprCrossword x = size.make();
                    for (int other = 0; other < size.lines(); other++) {
                        if (other != line) {
                            expressions.set(x, other, "e");
                        }
                    }
                    due(size + " fillings()", x.fillings(), 0);
                    due(size + " lineWords(" + line + ")", x.lineWords(line), size.words(line));
                }
            }
        });
    }
}
