import java.util.ArrayList;
import java.util.HashMap;
import java.util.List;
import java.util.Map;
import java.util.function.Consumer;
import java.util.function.ToIntFunction;

/**
 * No call ever throws; a refused call answers the code named and changes nothing; a call that
 * only asks changes nothing. Two objects are made by the same calls, one is asked once more,
 * and after that both must answer the same to everything.
 */
public final class RefusedCallsTest {
    private static final int BAD_ARG = -1;
    private static final int FULL = -2;
    private static final int TOO_FEW = -3;
    private static final int NONE = -4;
    private static final int OPEN = 2;
    private static final int[] EXTREMES = {
        Integer.MIN_VALUE, Integer.MIN_VALUE + 1, -1 << 30, -5, -1, 0, 1, 2, 3, 4, 6, 7, 31, 32, 33,
        4095, 4096, 1 << 28, 1 << 30, Integer.MAX_VALUE - 1, Integer.MAX_VALUE,
    };
    // The last two have as many expressions as can be and as many letters as can be.
    private static final String[] STACKS = {
        "", "e", "01.", "01|*", "01.0.1.0.1.0.1.", "01.0*", "10.*e2", "01.0.*1.0.1.0.2",
        "01.0.1e2.1.2", "012e01", "e0e1.*e2e", "01.10.2010", "01.0.1.2.e012e",
    };
    private static final int ENDINGS = 3;
    /** What objects answer that were not asked once more, by state and ending. */
    private static final Map<String, List<Integer>> UNASKED = new HashMap<>();
    private static final Checks checks = new Checks();
    private static final Expressions expressions = new Expressions(checks);

    private record Call(String name, ToIntFunction<ExprCrossword> of) {
    }

    /** How lines and pins are set before the stack is pushed. */
    private enum Lines { FREE, SOME, ONE_FILLING, NO_FILLING }

    private record State(Sizes size, String stack, Lines lines) {
        ExprCrossword make() {
            ExprCrossword x = size.make();
            if (lines == Lines.SOME) {
                expressions.set(x, 0, "01|*1.");
                expressions.set(x, size.lines() - 1, "01.*0e|.1*.");
                x.pin(0, 0, 0);
            } else if (lines == Lines.ONE_FILLING) {
                for (int r = 0; r < size.rows(); r++) {
                    expressions.set(x, r, "10*.");
                }
            } else if (lines == Lines.NO_FILLING) {
                expressions.set(x, 0, "00*.");
                x.pin(size.rows() - 1, 0, 0);
                x.pin(0, size.columns() - 1, 1);
            }
            expressions.push(x, stack);
            return x;
        }

        @Override
        public String toString() {
            return size + " " + lines + " '" + stack + "': ";
        }
    }

    public static void main(String[] args) {
        List<State> states = states();
        refused("letter", states, RefusedCallsTest::refusedLetters);
        refused("unit", states, RefusedCallsTest::refusedUnit);
        refused("cat and alt", states, RefusedCallsTest::refusedPairs);
        refused("star and reverse", states, RefusedCallsTest::refusedTops);
        refused("setLine", states, RefusedCallsTest::refusedSetLines);
        refused("freeLine", states, RefusedCallsTest::refusedFreeLines);
        refused("pin", states, RefusedCallsTest::refusedPins);
        refused("pinned", states, RefusedCallsTest::refusedPinned);
        refused("filling", states, RefusedCallsTest::refusedFillings);
        refused("forced", states, RefusedCallsTest::refusedForced);
        refused("lineWords", states, RefusedCallsTest::refusedLineWords);
        checks.sentence("a call that only asks changes nothing", () -> states.forEach(RefusedCallsTest::asking));
        checks.sentence("no call ever throws", () -> states.forEach(RefusedCallsTest::extremes));
        checks.end();
    }

    private static void refused(String name, List<State> states, Consumer<State> test) {
        checks.sentence("a refused " + name + " answers the code named and changes nothing",
            () -> states.forEach(test));
    }

    /** Many states of small grids, and a few of large ones, which take long to ask. */
    private static List<State> states() {
        List<State> states = new ArrayList<>();
        for (Sizes size : Sizes.ALL) {
            for (String stack : size.cells() <= 4 ? STACKS : new String[] {"", "01.10.2010"}) {
                for (Lines lines : size.cells() <= 6 ? Lines.values() : new Lines[] {Lines.SOME}) {
                    states.add(new State(size, stack, lines));
                }
            }
        }
        return states;
    }

    /** All that the object answers; what is on the stack is found by taking it off. */
    private static List<Integer> all(State state, ExprCrossword x, int ending) {
        List<Integer> answers = new ArrayList<>();
        Sizes size = state.size();
        answers.add(x.depth());
        answers.add(x.letters());
        for (int line : size.lineNumbers()) {
            answers.add(x.lineWords(line));
        }
        for (int r : size.rowNumbers()) {
            for (int c : size.columnNumbers()) {
                answers.add(x.pinned(r, c));
                answers.add(x.pin(r, c, OPEN));
            }
        }
        theFillings(x, answers);
        if (ending == 2) {
            answers.add(x.cat());
            answers.add(x.cat());
            answers.add(x.alt());
        }
        for (int line : size.lineNumbers()) {
            answers.add(x.freeLine(line));
        }
        for (int n = 0; n < 6; n++) {
            answers.add(x.setLine(ending == 0 ? 0 : size.lines() - 1));
            answers.add(x.letters());
            theFillings(x, answers);
        }
        return answers;
    }

    private static void theFillings(ExprCrossword x, List<Integer> answers) {
        int count = x.fillings();
        answers.add(count);
        answers.add(x.filling(0));
        answers.add(x.filling(count / 3));
        answers.add(x.filling(count - 1));
    }

    private static void unchanged(State state, Call call, int want) {
        for (int n = 0; n < ENDINGS; n++) {
            int ending = n;
            ExprCrossword asked = state.make();
            checks.due(state + call.name(), call.of().applyAsInt(asked), want);
            List<Integer> due = UNASKED.computeIfAbsent(state + " " + ending,
                key -> all(state, state.make(), ending));
            same(state, call, all(state, asked, ending), due);
        }
    }

    private static void same(State state, Call call, List<Integer> got, List<Integer> due) {
        for (int n = 0; n < due.size(); n++) {
            checks.due(state + "after " + call.name() + " answer " + n, got.get(n), due.get(n));
        }
    }

    private static void refusedLetters(State state) {
        for (int c : new int[] {-1, 3, Integer.MIN_VALUE, Integer.MAX_VALUE}) {
            unchanged(state, new Call("letter(" + c + ")", x -> x.letter(c)), BAD_ARG);
        }
        ExprCrossword made = state.make();
        if (made.depth() == 6 || made.letters() == 8) {
            for (int c = 0; c <= 2; c++) {
                int letter = c;
                unchanged(state, new Call("letter(" + c + ")", x -> x.letter(letter)), FULL);
            }
        }
    }

    private static void refusedUnit(State state) {
        if (state.make().depth() == 6) {
            unchanged(state, new Call("unit()", ExprCrossword::unit), FULL);
        }
    }

    private static void refusedPairs(State state) {
        if (state.make().depth() < 2) {
            unchanged(state, new Call("cat()", ExprCrossword::cat), TOO_FEW);
            unchanged(state, new Call("alt()", ExprCrossword::alt), TOO_FEW);
        }
    }

    private static void refusedTops(State state) {
        if (state.make().depth() < 1) {
            unchanged(state, new Call("star()", ExprCrossword::star), TOO_FEW);
            unchanged(state, new Call("reverse()", ExprCrossword::reverse), TOO_FEW);
        }
    }

    private static int[] wrongLines(State state) {
        int lines = state.size().lines();
        return new int[] {-1, lines, lines + 1, 7, 8, Integer.MIN_VALUE, Integer.MAX_VALUE};
    }

    private static void refusedSetLines(State state) {
        for (int line : wrongLines(state)) {
            unchanged(state, new Call("setLine(" + line + ")", x -> x.setLine(line)), BAD_ARG);
        }
        if (state.make().depth() == 0) {
            for (int line : state.size().lineNumbers()) {
                unchanged(state, new Call("setLine(" + line + ")", x -> x.setLine(line)), TOO_FEW);
            }
        }
    }

    private static void refusedFreeLines(State state) {
        for (int line : wrongLines(state)) {
            unchanged(state, new Call("freeLine(" + line + ")", x -> x.freeLine(line)), BAD_ARG);
        }
    }

    private static void refusedLineWords(State state) {
        for (int line : wrongLines(state)) {
            unchanged(state, new Call("lineWords(" + line + ")", x -> x.lineWords(line)), BAD_ARG);
        }
    }

    /** Just outside of the grid, on each side, and where the cells' order would lead back into it. */
    private static int[][] wrongCells(State state) {
        int rows = state.size().rows();
        int columns = state.size().columns();
        return new int[][] {
            {-1, 0}, {rows, 0}, {0, -1}, {0, columns}, {-1, columns}, {rows, -1}, {rows - 1, columns},
            {rows, -columns}, {1 << 30, 0}, {Integer.MIN_VALUE, 0}, {0, Integer.MAX_VALUE},
        };
    }

    private static void refusedPins(State state) {
        for (int[] cell : wrongCells(state)) {
            for (int v = 0; v <= 2; v++) {
                wrongPin(state, cell[0], cell[1], v);
            }
        }
        for (int v : new int[] {-1, 3, Integer.MIN_VALUE, Integer.MAX_VALUE}) {
            wrongPin(state, 0, 0, v);
            wrongPin(state, state.size().rows() - 1, state.size().columns() - 1, v);
        }
    }

    private static void wrongPin(State state, int r, int c, int v) {
        unchanged(state, new Call("pin(" + r + ", " + c + ", " + v + ")", x -> x.pin(r, c, v)), BAD_ARG);
    }

    private static void refusedPinned(State state) {
        for (int[] cell : wrongCells(state)) {
            String name = "pinned(" + cell[0] + ", " + cell[1] + ")";
            unchanged(state, new Call(name, x -> x.pinned(cell[0], cell[1])), BAD_ARG);
        }
    }

    private static void refusedForced(State state) {
        for (int[] cell : wrongCells(state)) {
            String name = "forced(" + cell[0] + ", " + cell[1] + ")";
            unchanged(state, new Call(name, x -> x.forced(cell[0], cell[1])), BAD_ARG);
        }
        if (state.lines() == Lines.NO_FILLING) {
            unchanged(state, new Call("forced(0, 0)", x -> x.forced(0, 0)), NONE);
        }
    }

    private static void refusedFillings(State state) {
        for (int k : new int[] {-1, Integer.MIN_VALUE}) {
            unchanged(state, new Call("filling(" + k + ")", x -> x.filling(k)), BAD_ARG);
        }
        int count = state.make().fillings();
        for (int k : new int[] {count, count + 1, Integer.MAX_VALUE}) {
            unchanged(state, new Call("filling(" + k + ")", x -> x.filling(k)), NONE);
        }
    }

    private static void asking(State state) {
        int r = state.size().rows() - 1;
        int c = state.size().columns() - 1;
        Call[] questions = {
            new Call("depth()", ExprCrossword::depth),
            new Call("letters()", ExprCrossword::letters),
            new Call("pinned(0, 0)", x -> x.pinned(0, 0)),
            new Call("pinned of the last cell", x -> x.pinned(r, c)),
            new Call("fillings()", ExprCrossword::fillings),
            new Call("filling(0)", x -> x.filling(0)),
            new Call("filling(1)", x -> x.filling(1)),
            new Call("below(0)", x -> x.below(0)),
            new Call("below(2)", x -> x.below(2)),
            new Call("below of all", x -> x.below(Integer.MAX_VALUE)),
            new Call("forced(0, 0)", x -> x.forced(0, 0)),
            new Call("forced of the last cell", x -> x.forced(r, c)),
            new Call("lineWords(0)", x -> x.lineWords(0)),
            new Call("lineWords of the last line", x -> x.lineWords(r + c + 1)),
        };
        for (Call question : questions) {
            for (boolean byLineWords : new boolean[] {false, true}) {
                ExprCrossword asked = state.make();
                int answer = question.of().applyAsInt(asked);
                checks.due(state + question.name() + " again", question.of().applyAsInt(asked), answer);
                List<Integer> due = byOne(state, state.make(), byLineWords);
                same(state, question, byOne(state, asked, byLineWords), due);
            }
        }
    }

    /**
     * Asks by one kind of question alone: an object that is asked more would hide what the
     * other kinds of question change.
     */
    private static List<Integer> byOne(State state, ExprCrossword x, boolean byLineWords) {
        List<Integer> answers = new ArrayList<>();
        Sizes size = state.size();
        ask(state, x, byLineWords, answers);
        for (int r : size.rowNumbers()) {
            for (int c : size.columnNumbers()) {
                answers.add(x.pin(r, c, OPEN));
            }
        }
        for (int line : size.lineNumbers()) {
            answers.add(x.freeLine(line));
        }
        for (int n = 0; n < 6; n++) {
            answers.add(x.setLine(0));
            ask(state, x, byLineWords, answers);
        }
        return answers;
    }

    private static void ask(State state, ExprCrossword x, boolean byLineWords, List<Integer> answers) {
        if (byLineWords) {
            for (int line : state.size().lineNumbers()) {
                answers.add(x.lineWords(line));
            }
        } else {
            for (int k = 0; k < 8; k++) {
                answers.add(x.filling(k));
            }
        }
    }

    private static void extremes(State state) {
        ExprCrossword x = state.make();
        for (int n : EXTREMES) {
            x.letter(n);
            x.setLine(n);
            x.freeLine(n);
            x.filling(n);
            x.below(n);
            x.lineWords(n);
        }
        for (int r : EXTREMES) {
            ExprCrossword y = state.make();
            for (int c : EXTREMES) {
                y.pin(r, c, r);
                y.pin(r, c, c);
                y.pinned(r, c);
                y.forced(r, c);
            }
        }
        ExprCrossword z = state.make();
        for (int n = 0; n < 12; n++) {
            z.unit();
            z.letter(n % 3);
        }
        for (int n = 0; n < 12; n++) {
            z.star();
            z.reverse();
            int answer = n % 2 == 0 ? z.cat() : z.alt();
            checks.due(state + "cat or alt number " + n, answer, n < 5 ? 5 - n : TOO_FEW);
        }
        for (int n = 0; n < 3; n++) {
            checks.due(state + "setLine number " + n, z.setLine(0), n == 0 ? 0 : TOO_FEW);
        }
    }
}
