/** A small crossword of regular expressions over the letters 0 and 1. */
public final class ExprCrossword {
    public static final int BAD_ARG = -1;
    public static final int FULL = -2;
    public static final int TOO_FEW = -3;
    public static final int NONE = -4;
    public static final int OPEN = 2;

    private static final int MAX_ROWS = 3;
    private static final int MAX_COLUMNS = 4;
    private static final int MAX_CELLS = 12;
    private static final int MAX_LINES = 7;
    private static final int MAX_DEPTH = 6;
    private static final int MAX_LETTERS = 8;

    // No line is longer than this, and whether a word is in a cat, alt, star or reverse
    // hangs only on words that are not longer than it: longer words need not be kept.
    private static final int MAX_LENGTH = 4;

    // The code of a word is the binary number of its letters behind a leading 1, so that
    // words of different lengths have different codes: 1 is the empty word, 2 the word 0,
    // 3 the word 1, up to 31. Bit n of a language tells whether the word of code n is in.
    private static final int EMPTY_WORD = 1;
    private static final int CODES = 32;
    private static final int ONLY_EMPTY_WORD = 2;
    private static final int ONLY_WORD_0 = 4;
    private static final int ONLY_WORD_1 = 8;
    private static final int ALL_WORDS = -2;

    private final int rows;
    private final int columns;
    private final int[] lineLanguages = new int[MAX_LINES];
    // Row by row; each cell has the letter pinned to it, or OPEN.
    private final int[] pins = new int[MAX_CELLS];
    private final int[] stackLanguages = new int[MAX_DEPTH];
    private final int[] stackLetters = new int[MAX_DEPTH];
    private int stackSize;

    public ExprCrossword(int rows, int columns) {
        this.rows = clamp(rows, MAX_ROWS);
        this.columns = clamp(columns, MAX_COLUMNS);
        this.stackSize = 0;
        for (int line = 0; line < MAX_LINES; line++) {
            lineLanguages[line] = ALL_WORDS;
        }
        for (int cell = 0; cell < MAX_CELLS; cell++) {
            pins[cell] = OPEN;
        }
    }

    public int letter(int c) {
        if (c < 0 || c > 2) {
            return BAD_ARG;
        }
        if (stackSize >= MAX_DEPTH || letters() >= MAX_LETTERS) {
            return FULL;
        }
        int language = letterLanguage(c);
        return push(language, 1);
    }

    public int unit() {
        if (stackSize >= MAX_DEPTH) {
            return FULL;
        }
        return push(ONLY_EMPTY_WORD, 0);
    }

    public int cat() {
        if (stackSize < 2) {
            return TOO_FEW;
        }
        int joined = joinLanguages(stackLanguages[stackSize - 2], stackLanguages[stackSize - 1]);
        return replaceTopTwo(joined);
    }

    public int alt() {
        if (stackSize < 2) {
            return TOO_FEW;
        }
        return replaceTopTwo(stackLanguages[stackSize - 2] | stackLanguages[stackSize - 1]);
    }

    public int star() {
        if (stackSize < 1) {
            return TOO_FEW;
        }
        stackLanguages[stackSize - 1] = repeatLanguage(stackLanguages[stackSize - 1]);
        return stackSize;
    }

    public int reverse() {
        if (stackSize < 1) {
            return TOO_FEW;
        }
        stackLanguages[stackSize - 1] = reverseLanguage(stackLanguages[stackSize - 1]);
        return stackSize;
    }

    public int setLine(int line) {
        if (!hasLine(line)) {
            return BAD_ARG;
        }
        if (stackSize < 1) {
            return TOO_FEW;
        }
        stackSize--;
        lineLanguages[line] = stackLanguages[stackSize];
        return stackSize;
    }

    public int depth() {
        return stackSize;
    }

    public int letters() {
        int sum = 0;
        for (int place = 0; place < stackSize; place++) {
            sum += stackLetters[place];
        }
        return sum;
    }

    public int freeLine(int line) {
        if (!hasLine(line)) {
            return BAD_ARG;
        }
        lineLanguages[line] = ALL_WORDS;
        return 0;
    }

    public int pin(int r, int c, int v) {
        if (!hasCell(r, c) || v < 0 || v > OPEN) {
            return BAD_ARG;
        }
        int cell = r * columns + c;
        int before = pins[cell];
        pins[cell] = v;
        return before;
    }

    public int pinned(int r, int c) {
        if (!hasCell(r, c)) {
            return BAD_ARG;
        }
        return pins[r * columns + c];
    }

    public int fillings() {
        int end = numbers();
        return countFillings(end);
    }

    public int filling(int k) {
        if (k < 0) {
            return BAD_ARG;
        }
        int end = numbers();
        int smaller = 0;
        for (int number = 0; number < end; number++) {
            if (isFilling(number)) {
                if (smaller == k) {
                    return number;
                }
                smaller++;
            }
        }
        return NONE;
    }

    public int below(int bound) {
        int end = numbers();
        return countFillings(bound < end ? bound : end);
    }

    public int forced(int r, int c) {
        if (!hasCell(r, c)) {
            return BAD_ARG;
        }
        int cell = r * columns + c;
        int end = numbers();
        int found = NONE;
        for (int number = 0; number < end; number++) {
            if (isFilling(number)) {
                int letter = letterAt(number, cell);
                if (found == NONE) {
                    found = letter;
                } else if (found != letter) {
                    return OPEN;
                }
            }
        }
        return found;
    }

    public int lineWords(int line) {
        if (!hasLine(line)) {
            return BAD_ARG;
        }
        int end = 1 << lineLength(line);
        int count = 0;
        for (int word = 0; word < end; word++) {
            if (wordFits(line, word)) {
                count++;
            }
        }
        return count;
    }

    private static int clamp(int value, int greatest) {
        if (value < 1) {
            return 1;
        }
        return value > greatest ? greatest : value;
    }

    private boolean hasLine(int line) {
        return line >= 0 && line < rows + columns;
    }

    private boolean hasCell(int r, int c) {
        return r >= 0 && r < rows && c >= 0 && c < columns;
    }

    /** To be called only while the stack has room. */
    private int push(int language, int letterCount) {
        stackLanguages[stackSize] = language;
        stackLetters[stackSize] = letterCount;
        stackSize++;
        return stackSize;
    }

    /** To be called only while the stack holds two or more. */
    private int replaceTopTwo(int language) {
        stackSize--;
        stackLanguages[stackSize - 1] = language;
        stackLetters[stackSize - 1] += stackLetters[stackSize];
        return stackSize;
    }

    private static int letterLanguage(int c) {
        if (c == 0) {
            return ONLY_WORD_0;
        }
        return c == 1 ? ONLY_WORD_1 : ONLY_WORD_0 | ONLY_WORD_1;
    }

    private static boolean hasWord(int language, int code) {
        return ((language >>> code) & 1) == 1;
    }

    private static int codeLength(int code) {
        int length = 0;
        for (int n = 1; n <= MAX_LENGTH; n++) {
            if ((code >> n) > 0) {
                length = n;
            }
        }
        return length;
    }

    private static int joinLanguages(int first, int second) {
        int joined = 0;
        for (int code = EMPTY_WORD; code < CODES; code++) {
            if (hasWord(second, code)) {
                joined |= appendWord(first, code);
            }
        }
        return joined;
    }

    /** The words of the language, each with the word of the code behind it. */
    private static int appendWord(int language, int code) {
        int length = codeLength(code);
        int tail = code - (1 << length);
        int appended = 0;
        for (int head = EMPTY_WORD; head < CODES; head++) {
            int whole = (head << length) + tail;
            if (whole < CODES && hasWord(language, head)) {
                appended |= 1 << whole;
            }
        }
        return appended;
    }

    private static int repeatLanguage(int language) {
        // A word of MAX_LENGTH letters is made of at most so many words that are not empty.
        int repeated = ONLY_EMPTY_WORD;
        for (int times = 0; times < MAX_LENGTH; times++) {
            repeated |= joinLanguages(repeated, language);
        }
        return repeated;
    }

    private static int reverseLanguage(int language) {
        int reversed = 0;
        for (int code = EMPTY_WORD; code < CODES; code++) {
            if (hasWord(language, code)) {
                reversed |= 1 << reverseCode(code);
            }
        }
        return reversed;
    }

    private static int reverseCode(int code) {
        int length = codeLength(code);
        int reversed = EMPTY_WORD;
        for (int n = 0; n < length; n++) {
            reversed = reversed * 2 + ((code >> n) & 1);
        }
        return reversed;
    }

    /** How many numbers the cells can make, whether they are fillings or not. */
    private int numbers() {
        return 1 << (rows * columns);
    }

    private int countFillings(int end) {
        int count = 0;
        for (int number = 0; number < end; number++) {
            if (isFilling(number)) {
                count++;
            }
        }
        return count;
    }

    private boolean isFilling(int number) {
        int lines = rows + columns;
        for (int line = 0; line < lines; line++) {
            int word = lineWord(line, number);
            if (!wordFits(line, word)) {
                return false;
            }
        }
        return true;
    }

    private int letterAt(int number, int cell) {
        return (number >> (rows * columns - 1 - cell)) & 1;
    }

    private int lineLength(int line) {
        return line < rows ? columns : rows;
    }

    private int lineCell(int line, int place) {
        if (line < rows) {
            return line * columns + place;
        }
        return place * columns + (line - rows);
    }

    private int lineWord(int line, int number) {
        int length = lineLength(line);
        int word = 0;
        for (int place = 0; place < length; place++) {
            int cell = lineCell(line, place);
            word = word * 2 + letterAt(number, cell);
        }
        return word;
    }

    private boolean wordFits(int line, int word) {
        int length = lineLength(line);
        for (int place = 0; place < length; place++) {
            int cell = lineCell(line, place);
            int pinnedLetter = pins[cell];
            int letter = (word >> (length - 1 - place)) & 1;
            if (pinnedLetter != OPEN && pinnedLetter != letter) {
                return false;
            }
        }
        return hasWord(lineLanguages[line], (1 << length) + word);
    }
}
