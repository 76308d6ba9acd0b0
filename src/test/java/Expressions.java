import java.util.ArrayList;
import java.util.List;

/**
 * Expressions written in postfix order: 0, 1 and 2 the letters, e the unit, . cat, | alt,
 * * star, ~ reverse.
 */
final class Expressions {
    /** All words of up to four letters, the shorter ones first. */
    static final List<String> WORDS = wordsUpTo(4);

    private final Checks checks;

    Expressions(Checks checks) {
        this.checks = checks;
    }

    static List<String> wordsUpTo(int length) {
        List<String> words = new ArrayList<>(List.of(""));
        for (int n = 0; words.get(n).length() < length; n++) {
            words.add(words.get(n) + "0");
            words.add(words.get(n) + "1");
        }
        return words;
    }

    /** An expression for the one word. */
    static String ofWord(String word) {
        if (word.isEmpty()) {
            return "e";
        }
        StringBuilder postfix = new StringBuilder(word.substring(0, 1));
        for (char letter : word.substring(1).toCharArray()) {
            postfix.append(letter).append('.');
        }
        return postfix.toString();
    }

    static int call(ExprCrossword x, char sign) {
        return switch (sign) {
            case 'e' -> x.unit();
            case '.' -> x.cat();
            case '|' -> x.alt();
            case '*' -> x.star();
            case '~' -> x.reverse();
            default -> x.letter(sign - '0');
        };
    }

    void push(ExprCrossword x, String postfix) {
        for (char sign : postfix.toCharArray()) {
            int answer = call(x, sign);
            checks.due("'" + sign + "' of " + postfix, answer, x.depth());
        }
    }

    /** Pushes the expression and makes it the line's. */
    void set(ExprCrossword x, int line, String postfix) {
        int before = x.depth();
        push(x, postfix);
        checks.due("setLine(" + line + ") of " + postfix, x.setLine(line), before);
    }

    /**
     * Asks, by grids of one row, which of the words of 1 to 4 letters are in the language; the
     * words that are due stand in rising order for each length.
     */
    void language(String postfix, List<String> words) {
        for (int columns = 1; columns <= 4; columns++) {
            ExprCrossword x = new ExprCrossword(1, columns);
            set(x, 0, postfix);
            int k = 0;
            for (String word : words) {
                if (word.length() == columns) {
                    checks.due(postfix + " filling(" + k + ")", x.filling(k), Integer.parseInt(word, 2));
                    k++;
                }
            }
            checks.due(postfix + " fillings() of length " + columns, x.fillings(), k);
        }
    }

    /** The empty word can't be asked for directly: X and the letter 1 joined have the word 1. */
    void emptyWord(String postfix, boolean in) {
        ExprCrossword x = new ExprCrossword(1, 1);
        set(x, 0, postfix + "1.");
        checks.due(postfix + " with the empty word", x.filling(0), in ? 1 : ExprCrossword.NONE);
    }
}
