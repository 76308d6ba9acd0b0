import java.util.ArrayList;
import java.util.LinkedHashSet;
import java.util.List;
import java.util.Set;

/** A grid that the document allows, with what lies just outside and far outside of it. */
record Sizes(int rows, int columns) {
    static final List<Sizes> ALL = all();

    private static final int[] FAR = {
        Integer.MIN_VALUE, Integer.MIN_VALUE + 1, -1 << 30, -65536, -256, -32, -8, -7, -4, -3, -2, -1,
        32, 256, 65536, 1 << 28, 1 << 29, 1 << 30, Integer.MAX_VALUE - 1, Integer.MAX_VALUE,
    };

    private static List<Sizes> all() {
        List<Sizes> sizes = new ArrayList<>();
        for (int rows = 1; rows <= 3; rows++) {
            for (int columns = 1; columns <= 4; columns++) {
                sizes.add(new Sizes(rows, columns));
            }
        }
        return sizes;
    }

    ExprCrossword make() {
        return new ExprCrossword(rows, columns);
    }

    int cells() {
        return rows * columns;
    }

    int numbers() {
        return 1 << cells();
    }

    int lines() {
        return rows + columns;
    }

    /** How many words the line has when it is free. */
    int words(int line) {
        return 1 << (line < rows ? columns : rows);
    }

    Set<Integer> rowNumbers() {
        return upTo(rows);
    }

    Set<Integer> columnNumbers() {
        return upTo(columns);
    }

    Set<Integer> lineNumbers() {
        return upTo(lines());
    }

    Set<Integer> noLines() {
        return outside(lines());
    }

    Set<Integer> noRows() {
        return outside(rows);
    }

    Set<Integer> noColumns() {
        return outside(columns);
    }

    private static Set<Integer> upTo(int count) {
        Set<Integer> numbers = new LinkedHashSet<>();
        for (int n = 0; n < count; n++) {
            numbers.add(n);
        }
        return numbers;
    }

    private static Set<Integer> outside(int count) {
        Set<Integer> numbers = new LinkedHashSet<>();
        for (int far : FAR) {
            numbers.add(far);
        }
        for (int n = count; n <= 13; n++) {
            numbers.add(n);
        }
        return numbers;
    }

    @Override
    public String toString() {
        return rows + " x " + columns;
    }
}
