/**
 * The boundary cases of the fillings, promises 14 to 17, and of the 512 calls: each sentence
 * has a test of its own.
 */
public final class FillingBoundariesTest {
    private static final int BAD_ARG = -1;
    private static final int FULL = -2;
    private static final int TOO_FEW = -3;
    private static final int NONE = -4;
    private static final int OPEN = 2;
    private static final int CALLS = 512;
    private static final int[] BELOW_ZERO = {
        -1, -2, -3, -4, -5, -4095, -4096, -4097, -1 << 30, Integer.MIN_VALUE + 1, Integer.MIN_VALUE,
    };
    private static final int[] LARGE = {
        4096, 4097, 8191, 8192, 65535, 65536, 65537, 1 << 30, Integer.MAX_VALUE - 1, Integer.MAX_VALUE,
    };
    private static final Checks checks = new Checks();
    private static final Expressions expressions = new Expressions(checks);

    public static void main(String[] args) {
        number();
        fillings();
        filling();
        below();
        forced();
        calls();
        checks.end();
    }

    private static void due(String call, long got, long want) {
        checks.due(call, got, want);
    }

    /** No word fits the line. */
    private static ExprCrossword noFilling(Sizes size, int line) {
        ExprCrossword x = size.make();
        expressions.set(x, line, "e");
        return x;
    }

    /** The one filling has the number. */
    private static ExprCrossword only(Sizes size, int number) {
        ExprCrossword x = size.make();
        for (int cell = 0; cell < size.cells(); cell++) {
            int digit = (number >> (size.cells() - 1 - cell)) & 1;
            due(size + " pin", x.pin(cell / size.columns(), cell % size.columns(), digit), OPEN);
        }
        return x;
    }

    /** All cells the same in each row: one filling for each choice of the rows' letters. */
    private static ExprCrossword evenRows(Sizes size) {
        ExprCrossword x = size.make();
        for (int r = 0; r < size.rows(); r++) {
            expressions.set(x, r, "0*1*|");
        }
        return x;
    }

    private static int evenRowsNumber(Sizes size, int k) {
        int number = 0;
        for (int r = 0; r < size.rows(); r++) {
            int letter = (k >> (size.rows() - 1 - r)) & 1;
            for (int c = 0; c < size.columns(); c++) {
                number = number * 2 + letter;
            }
        }
        return number;
    }

    private static void number() {
        checks.sentence("Terms: the very first cell is the highest digit, the last cell the lowest", () -> {
            for (Sizes size : Sizes.ALL) {
                for (int cell = 0; cell < size.cells(); cell++) {
                    ExprCrossword x = size.make();
                    x.pin(cell / size.columns(), cell % size.columns(), 1);
                    int digit = 1 << (size.cells() - 1 - cell);
                    due(size + " filling(0), cell " + cell, x.filling(0), digit);
                    due(size + " below, cell " + cell, x.below(digit), 0);
                    due(size + " below, cell " + cell, x.below(digit + 1), 1);
                }
            }
        });
        checks.sentence("Terms: row 0 first, and in a row column 0 first", () -> {
            for (Sizes size : Sizes.ALL) {
                for (int n = 0; n < size.numbers(); n += 1 + size.numbers() / 128) {
                    due(size + " filling(0)", only(size, n).filling(0), n);
                }
            }
        });
    }

    private static void fillings() {
        checks.sentence("14: no filling at all, because of one line", () -> {
            for (Sizes size : Sizes.ALL) {
                for (int line = 0; line < size.lines(); line++) {
                    due(size + " fillings()", noFilling(size, line).fillings(), 0);
                }
            }
        });
        checks.sentence("14: no filling at all, because a row and a column contradict", () -> {
            for (Sizes size : Sizes.ALL) {
                for (int cell = 0; cell < size.cells(); cell++) {
                    ExprCrossword x = size.make();
                    expressions.set(x, cell / size.columns(), "00*.");
                    int column = size.rows() + cell % size.columns();
                    expressions.set(x, column, "11*.");
                    due(size + " fillings()", x.fillings(), 0);
                    due(size + " freeLine(" + column + ")", x.freeLine(column), 0);
                    due(size + " fillings()", x.fillings(), size.numbers() >> size.columns());
                }
            }
        });
        checks.sentence("14: no filling at all, because a pin contradicts", () -> {
            for (Sizes size : Sizes.ALL) {
                for (int cell = 0; cell < size.cells(); cell++) {
                    ExprCrossword x = size.make();
                    expressions.set(x, cell / size.columns(), "00*.");
                    due(size + " pin", x.pin(cell / size.columns(), cell % size.columns(), 1), OPEN);
                    due(size + " fillings()", x.fillings(), 0);
                }
            }
        });
        checks.sentence("14: one filling alone, when every cell is pinned", () -> {
            for (Sizes size : Sizes.ALL) {
                due(size + " fillings()", only(size, 0).fillings(), 1);
                due(size + " fillings()", only(size, size.numbers() - 1).fillings(), 1);
            }
        });
        checks.sentence("14: every number is a filling, when nothing is asked", () -> {
            for (Sizes size : Sizes.ALL) {
                due(size + " fillings()", size.make().fillings(), size.numbers());
            }
        });
        checks.sentence("14: some, in each size", () -> {
            for (Sizes size : Sizes.ALL) {
                due(size + " fillings()", evenRows(size).fillings(), 1 << size.rows());
            }
        });
    }

    private static void filling() {
        checks.sentence("15: BAD_ARG if k < 0", () -> {
            for (Sizes size : Sizes.ALL) {
                for (ExprCrossword x : new ExprCrossword[] {size.make(), only(size, 0), evenRows(size)}) {
                    for (int k : BELOW_ZERO) {
                        due(size + " filling(" + k + ")", x.filling(k), BAD_ARG);
                    }
                }
            }
        });
        checks.sentence("15: BAD_ARG if k < 0, also when there is no filling", () -> {
            for (Sizes size : Sizes.ALL) {
                ExprCrossword x = noFilling(size, 0);
                for (int k : BELOW_ZERO) {
                    due(size + " filling(" + k + ") of none", x.filling(k), BAD_ARG);
                }
            }
        });
        checks.sentence("15: NONE if there are exactly k fillings", () -> {
            for (Sizes size : Sizes.ALL) {
                due(size + " filling of all", size.make().filling(size.numbers()), NONE);
                due(size + " filling of some", evenRows(size).filling(1 << size.rows()), NONE);
                due(size + " filling of one", only(size, 0).filling(1), NONE);
                due(size + " filling of one", only(size, size.numbers() - 1).filling(1), NONE);
                due(size + " filling of none", noFilling(size, 0).filling(0), NONE);
            }
        });
        checks.sentence("15: NONE if there are fewer than k fillings", () -> {
            for (Sizes size : Sizes.ALL) {
                due(size + " filling of all", size.make().filling(size.numbers() + 1), NONE);
                ExprCrossword[] made = {evenRows(size), only(size, 0), noFilling(size, size.lines() - 1)};
                for (ExprCrossword x : made) {
                    for (int k : new int[] {9, 10, 100, 4095}) {
                        due(size + " filling(" + k + ")", x.filling(k), NONE);
                    }
                    for (int k : LARGE) {
                        due(size + " filling(" + k + ")", x.filling(k), NONE);
                    }
                }
            }
            for (int k : LARGE) {
                due("filling(" + k + ") of 4096", new ExprCrossword(3, 4).filling(k), NONE);
            }
        });
        checks.sentence("15: the first filling has no smaller one, the last has all the others", () -> {
            for (Sizes size : Sizes.ALL) {
                int last = size.numbers() - 1;
                due(size + " filling(0) of all", size.make().filling(0), 0);
                due(size + " the last of all", size.make().filling(last), last);
                due(size + " the only one", only(size, 0).filling(0), 0);
                due(size + " the only one", only(size, last).filling(0), last);
                ExprCrossword x = evenRows(size);
                for (int k = 0; k < 1 << size.rows(); k++) {
                    due(size + " filling(" + k + ")", x.filling(k), evenRowsNumber(size, k));
                }
            }
        });
    }

    private static void below() {
        checks.sentence("16: 0 if bound <= 0", () -> {
            for (Sizes size : Sizes.ALL) {
                for (ExprCrossword x : new ExprCrossword[] {size.make(), only(size, 0), noFilling(size, 0)}) {
                    due(size + " below(0)", x.below(0), 0);
                    for (int bound : BELOW_ZERO) {
                        due(size + " below(" + bound + ")", x.below(bound), 0);
                    }
                }
            }
        });
        checks.sentence("16: less than bound: a filling whose number is the bound doesn't count", () -> {
            for (Sizes size : Sizes.ALL) {
                int last = size.numbers() - 1;
                for (int n : new int[] {0, 1, size.numbers() / 2, last - 1, last}) {
                    ExprCrossword x = only(size, n);
                    due(size + " below(" + (n - 1) + ")", x.below(n - 1), 0);
                    due(size + " below(" + n + ")", x.below(n), 0);
                    due(size + " below(" + (n + 1) + ")", x.below(n + 1), 1);
                    due(size + " below(" + n + ") of all", size.make().below(n), n);
                }
                ExprCrossword y = evenRows(size);
                for (int k = 0; k < 1 << size.rows(); k++) {
                    int n = evenRowsNumber(size, k);
                    due(size + " below(" + n + ")", y.below(n), k);
                    due(size + " below(" + (n + 1) + ")", y.below(n + 1), k + 1);
                }
            }
        });
        checks.sentence("16: a bound above every number counts all fillings", () -> {
            for (Sizes size : Sizes.ALL) {
                for (int add = 0; add <= 2; add++) {
                    int bound = size.numbers() + add;
                    due(size + " below(" + bound + ")", size.make().below(bound), size.numbers());
                    due(size + " below(" + bound + ")", only(size, size.numbers() - 1).below(bound), 1);
                }
                for (int bound : LARGE) {
                    due(size + " below(" + bound + ")", size.make().below(bound), size.numbers());
                    due(size + " below(" + bound + ")", evenRows(size).below(bound), 1 << size.rows());
                    due(size + " below(" + bound + ")", noFilling(size, 0).below(bound), 0);
                }
            }
        });
    }

    private static void forced() {
        checks.sentence("17: BAD_ARG if there is no such cell", () -> {
            for (Sizes size : Sizes.ALL) {
                noCells(size, size.make());
                noCells(size, only(size, 0));
                noCells(size, only(size, size.numbers() - 1));
            }
        });
        checks.sentence("17: tested first, also when there is no filling", () -> {
            for (Sizes size : Sizes.ALL) {
                noCells(size, noFilling(size, 0));
                noCells(size, noFilling(size, size.lines() - 1));
            }
        });
        checks.sentence("17: NONE if there is no filling", () -> {
            for (Sizes size : Sizes.ALL) {
                for (int line = 0; line < size.lines(); line++) {
                    allForced(size, noFilling(size, line), NONE);
                }
            }
        });
        checks.sentence("17: NONE if there is no filling, for a pinned cell, too", () -> {
            for (Sizes size : Sizes.ALL) {
                for (int number : new int[] {0, size.numbers() - 1}) {
                    ExprCrossword x = only(size, number);
                    expressions.set(x, size.lines() - 1, "e");
                    allForced(size, x, NONE);
                }
            }
        });
        checks.sentence("17: 0 or 1 if the cell has that letter in every filling, in the only one, too", () -> {
            for (Sizes size : Sizes.ALL) {
                allForced(size, only(size, 0), 0);
                allForced(size, only(size, size.numbers() - 1), 1);
                for (int line = 0; line < size.rows(); line++) {
                    for (int letter = 0; letter <= 1; letter++) {
                        ExprCrossword x = size.make();
                        expressions.set(x, line, letter + "*");
                        for (int c = 0; c < size.columns(); c++) {
                            due(size + " forced(" + line + ", " + c + ")", x.forced(line, c), letter);
                        }
                    }
                }
            }
        });
        checks.sentence("17: OPEN if some filling has 0 there and some has 1, though it be one alone", () -> {
            for (Sizes size : Sizes.ALL) {
                allForced(size, size.make(), OPEN);
                allForced(size, evenRows(size), OPEN);
                // One row with a single word that differs from the others in its last letter.
                String zeros = "0".repeat(size.columns());
                String ones = "1".repeat(size.columns());
                for (String word : new String[] {zeros, ones}) {
                    String turned = word.substring(1) + (word == zeros ? "1" : "0");
                    ExprCrossword x = size.make();
                    expressions.set(x, 0, Expressions.ofWord(word) + Expressions.ofWord(turned) + "|");
                    for (int c = 0; c < size.columns(); c++) {
                        due(size + " forced(0, " + c + ")", x.forced(0, c),
                            c == size.columns() - 1 ? OPEN : word == zeros ? 0 : 1);
                    }
                }
            }
        });
    }

    private static void noCells(Sizes size, ExprCrossword x) {
        for (int r : size.noRows()) {
            due(size + " forced(" + r + ", 0)", x.forced(r, 0), BAD_ARG);
            due(size + " forced(" + r + ", last)", x.forced(r, size.columns() - 1), BAD_ARG);
            for (int c : new int[] {-1, -4, 4, 8, Integer.MIN_VALUE, Integer.MAX_VALUE}) {
                due(size + " forced(" + r + ", " + c + ")", x.forced(r, c), BAD_ARG);
            }
        }
        for (int c : size.noColumns()) {
            for (int r = 0; r < size.rows(); r++) {
                due(size + " forced(" + r + ", " + c + ")", x.forced(r, c), BAD_ARG);
            }
        }
    }

    private static void allForced(Sizes size, ExprCrossword x, int want) {
        for (int r = 0; r < size.rows(); r++) {
            for (int c = 0; c < size.columns(); c++) {
                due(size + " forced(" + r + ", " + c + ")", x.forced(r, c), want);
            }
        }
    }

    private static void calls() {
        checks.sentence("What it is: 512 calls, that all are refused", () -> {
            ExprCrossword x = new ExprCrossword(3, 4);
            for (int call = 1; call <= CALLS; call++) {
                switch (call % 8) {
                    case 0 -> due("call " + call + " letter(3)", x.letter(3), BAD_ARG);
                    case 1 -> due("call " + call + " cat()", x.cat(), TOO_FEW);
                    case 2 -> due("call " + call + " alt()", x.alt(), TOO_FEW);
                    case 3 -> due("call " + call + " star()", x.star(), TOO_FEW);
                    case 4 -> due("call " + call + " reverse()", x.reverse(), TOO_FEW);
                    case 5 -> due("call " + call + " setLine(0)", x.setLine(0), TOO_FEW);
                    case 6 -> due("call " + call + " pin(3, 0, 0)", x.pin(3, 0, 0), BAD_ARG);
                    default -> due("call " + call + " filling(-1)", x.filling(-1), BAD_ARG);
                }
            }
        });
        checks.sentence("What it is: 512 calls, the stack full and letters at the limit from the 10th on", () -> {
            ExprCrossword x = new ExprCrossword(3, 4);
            for (char sign : "01.10.2010".toCharArray()) {
                Expressions.call(x, sign);
            }
            for (int call = 11; call <= CALLS; call++) {
                due("call " + call, call % 2 == 0 ? x.letter(call % 3) : x.unit(), FULL);
            }
        });
        checks.sentence("What it is: 512 calls, each letter that is pushed is taken off again", () -> {
            ExprCrossword x = new ExprCrossword(3, 4);
            for (int call = 1; call < CALLS; call += 2) {
                due("call " + call + " letter(2)", x.letter(2), 1);
                due("call " + (call + 1) + " setLine(6)", x.setLine(6), 0);
            }
        });
        checks.sentence("What it is: 512 calls, each of which changes an expression", () -> {
            ExprCrossword x = new ExprCrossword(1, 4);
            Expressions.call(x, '0');
            Expressions.call(x, '1');
            Expressions.call(x, '.');
            for (int call = 4; call < CALLS - 1; call++) {
                due("call " + call, call % 2 == 0 ? x.reverse() : x.star(), 1);
            }
            due("call 511 setLine(0)", x.setLine(0), 0);
            due("call 512 filling(0)", x.filling(0), 0b0101);
        });
        checks.sentence("What it is: 512 calls, the last of which answers as the first", () -> {
            ExprCrossword x = new ExprCrossword(3, 4);
            for (int call = 1; call <= CALLS; call++) {
                due("call " + call + " fillings()", x.fillings(), 4096);
            }
            ExprCrossword y = new ExprCrossword(3, 4);
            for (int call = 1; call <= CALLS; call++) {
                int before = call == 1 ? OPEN : call % 2;
                due("call " + call + " pin(2, 3, v)", y.pin(2, 3, 1 - call % 2), before);
            }
        });
    }
}
