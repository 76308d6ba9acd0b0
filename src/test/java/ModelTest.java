import java.util.ArrayList;
import java.util.Arrays;
import java.util.List;

/**
 * Long runs of calls against a second, slow reading of the document: expressions are kept as
 * trees, and a word is looked for in a tree by trying every way to cut it.
 */
public final class ModelTest {
    private static final int RUNS = 240;
    private static final int CALLS = 512;
    private static final int[] FAR = {Integer.MIN_VALUE, Integer.MIN_VALUE + 1, -5, 97, Integer.MAX_VALUE};

    private record Tree(char kind, Tree left, Tree right, int letters) {
        boolean has(String word) {
            switch (kind) {
                case '0': return word.equals("0");
                case '1': return word.equals("1");
                case '2': return word.length() == 1;
                case 'e': return word.isEmpty();
                case '|': return left.has(word) || right.has(word);
                case '~': return left.has(new StringBuilder(word).reverse().toString());
                case '.': return hasCut(word, 0, right);
                default: return word.isEmpty() || hasCut(word, 1, this);
            }
        }

        private boolean hasCut(String word, int from, Tree rest) {
            for (int cut = from; cut <= word.length(); cut++) {
                if (left.has(word.substring(0, cut)) && rest.has(word.substring(cut))) {
                    return true;
                }
            }
            return false;
        }
    }

    private final Checks checks;
    private final int run;
    private final int rows;
    private final int columns;
    private final ExprCrossword x;
    private final List<Tree> stack = new ArrayList<>();
    private final Tree[] lines;
    private final int[][] pins;
    private List<Integer> found;
    private long seed;

    private ModelTest(Checks checks, int run) {
        this.checks = checks;
        this.run = run;
        this.rows = 1 + run % 3;
        this.columns = 1 + run / 3 % 4;
        this.x = new ExprCrossword(rows, columns);
        this.lines = new Tree[rows + columns];
        this.pins = new int[rows][columns];
        for (int[] row : pins) {
            Arrays.fill(row, 2);
        }
        this.seed = run;
    }

    public static void main(String[] args) {
        Checks checks = new Checks();
        for (int run = 0; run < RUNS; run++) {
            ModelTest model = new ModelTest(checks, run);
            for (int call = 0; call < CALLS; call++) {
                model.step(call);
            }
        }
        checks.end();
    }

    /** Made from the run's number alone, so that each run is the same every time. */
    private int pick(int count) {
        seed = seed * 6364136223846793005L + 1442695040888963407L;
        return (int) ((seed >>> 33) % count);
    }

    /** Mostly 0 to count - 1, now and then just outside, seldom far outside. */
    private int near(int count) {
        int way = pick(40);
        if (way == 0) {
            return FAR[pick(FAR.length)];
        }
        return way < 4 ? pick(count + 2) - 1 : pick(count);
    }

    private void step(int call) {
        String at = "run " + run + " call " + call + ": ";
        int kind = pick(32);
        if (kind < 17) {
            express(at, kind);
        } else if (kind < 24) {
            change(at, kind);
        } else {
            ask(at, kind);
        }
    }

    private void express(String at, int kind) {
        int size = stack.size();
        if (kind < 8) {
            int c = near(3);
            int want = c < 0 || c > 2 ? -1 : size == 6 || letters() == 8 ? -2 : size + 1;
            if (want > 0) {
                stack.add(new Tree((char) ('0' + c), null, null, 1));
            }
            checks.due(at + "letter(" + c + ")", x.letter(c), want);
        } else if (kind == 8) {
            if (size < 6) {
                stack.add(new Tree('e', null, null, 0));
            }
            checks.due(at + "unit()", x.unit(), size < 6 ? size + 1 : -2);
        } else if (kind < 13) {
            char sign = kind < 11 ? '.' : '|';
            if (size >= 2) {
                Tree right = stack.remove(size - 1);
                Tree left = stack.remove(size - 2);
                stack.add(new Tree(sign, left, right, left.letters + right.letters));
            }
            checks.due(at + sign, sign == '.' ? x.cat() : x.alt(), size >= 2 ? size - 1 : -3);
        } else {
            char sign = kind < 15 ? '*' : '~';
            if (size >= 1) {
                Tree top = stack.remove(size - 1);
                stack.add(new Tree(sign, top, null, top.letters));
            }
            checks.due(at + sign, sign == '*' ? x.star() : x.reverse(), size >= 1 ? size : -3);
        }
    }

    private void change(String at, int kind) {
        if (kind < 21) {
            int line = near(lines.length);
            int size = stack.size();
            int want = !isLine(line) ? -1 : size == 0 ? -3 : size - 1;
            if (want >= 0) {
                lines[line] = stack.remove(size - 1);
                found = null;
            }
            checks.due(at + "setLine(" + line + ")", x.setLine(line), want);
        } else if (kind == 21) {
            int line = near(lines.length);
            if (isLine(line)) {
                lines[line] = null;
                found = null;
            }
            checks.due(at + "freeLine(" + line + ")", x.freeLine(line), isLine(line) ? 0 : -1);
        } else {
            int r = near(rows);
            int c = near(columns);
            int v = kind == 22 ? near(3) : 2;
            int want = !isCell(r, c) || v < 0 || v > 2 ? -1 : pins[r][c];
            if (want >= 0) {
                pins[r][c] = v;
                found = null;
            }
            checks.due(at + "pin(" + r + ", " + c + ", " + v + ")", x.pin(r, c, v), want);
        }
    }

    private void ask(String at, int kind) {
        int r = near(rows);
        int c = near(columns);
        int line = near(lines.length);
        int number = near(1 << (rows * columns));
        int k = near(Math.max(1, fillings().size()));
        switch (kind) {
            case 24 -> checks.due(at + "depth()", x.depth(), stack.size());
            case 25 -> checks.due(at + "letters()", x.letters(), letters());
            case 26 -> checks.due(at + "pinned(" + r + ", " + c + ")", x.pinned(r, c),
                isCell(r, c) ? pins[r][c] : -1);
            case 27 -> checks.due(at + "fillings()", x.fillings(), fillings().size());
            case 28 -> checks.due(at + "filling(" + k + ")", x.filling(k),
                k < 0 ? -1 : k < fillings().size() ? fillings().get(k) : -4);
            case 29 -> checks.due(at + "below(" + number + ")", x.below(number),
                fillings().stream().filter(f -> f < number).count());
            case 30 -> checks.due(at + "forced(" + r + ", " + c + ")", x.forced(r, c), forced(r, c));
            default -> checks.due(at + "lineWords(" + line + ")", x.lineWords(line),
                isLine(line) ? words(line).size() : -1);
        }
    }

    private boolean isLine(int line) {
        return line >= 0 && line < lines.length;
    }

    private boolean isCell(int r, int c) {
        return r >= 0 && r < rows && c >= 0 && c < columns;
    }

    private int letters() {
        return stack.stream().mapToInt(Tree::letters).sum();
    }

    private static String binary(int number, int length) {
        String digits = Integer.toBinaryString(number);
        return "0".repeat(length - digits.length()) + digits;
    }

    private int pinAt(int line, int place) {
        return line < rows ? pins[line][place] : pins[place][line - rows];
    }

    private List<String> words(int line) {
        int length = line < rows ? columns : rows;
        List<String> words = new ArrayList<>();
        for (int number = 0; number < 1 << length; number++) {
            String word = binary(number, length);
            boolean fits = lines[line] == null || lines[line].has(word);
            for (int place = 0; place < length; place++) {
                int pin = pinAt(line, place);
                fits &= pin == 2 || word.charAt(place) == '0' + pin;
            }
            if (fits) {
                words.add(word);
            }
        }
        return words;
    }

    private List<Integer> fillings() {
        if (found == null) {
            found = new ArrayList<>();
            List<List<String>> fitting = new ArrayList<>();
            for (int line = 0; line < lines.length; line++) {
                fitting.add(words(line));
            }
            for (int number = 0; number < 1 << (rows * columns); number++) {
                if (fits(binary(number, rows * columns), fitting)) {
                    found.add(number);
                }
            }
        }
        return found;
    }

    private boolean fits(String cells, List<List<String>> fitting) {
        for (int r = 0; r < rows; r++) {
            if (!fitting.get(r).contains(cells.substring(r * columns, (r + 1) * columns))) {
                return false;
            }
        }
        for (int c = 0; c < columns; c++) {
            StringBuilder word = new StringBuilder();
            for (int r = 0; r < rows; r++) {
                word.append(cells.charAt(r * columns + c));
            }
            if (!fitting.get(rows + c).contains(word.toString())) {
                return false;
            }
        }
        return true;
    }

    private int forced(int r, int c) {
        if (!isCell(r, c)) {
            return -1;
        }
        long ones = fillings().stream()
            .filter(f -> binary(f, rows * columns).charAt(r * columns + c) == '1').count();
        if (fillings().isEmpty()) {
            return -4;
        }
        return ones == 0 ? 0 : ones == fillings().size() ? 1 : 2;
    }
}
