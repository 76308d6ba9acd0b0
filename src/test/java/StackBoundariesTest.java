import java.util.ArrayList;
import java.util.List;

/** The boundary cases of the stack, promises 2 to 10: each sentence has a test of its own. */
public final class StackBoundariesTest {
    private static final int BAD_ARG = -1;
    private static final int FULL = -2;
    private static final int TOO_FEW = -3;
    private static final int NONE = -4;
    private static final int[] NO_LETTER = {
        Integer.MIN_VALUE, Integer.MIN_VALUE + 1, Integer.MIN_VALUE + 2, -65536, -256, -255, -254,
        -3, -2, -1, 3, 4, 5, 6, 7, 8, 32, 33, 34, 48, 49, 50, 256, 257, 258, 65536, 65537, 65538,
        1 << 30, Integer.MAX_VALUE - 1, Integer.MAX_VALUE,
    };
    // Stacks at a limit; the names tell how many expressions and letters they hold.
    private static final String SIX_AND_0 = "eeeeee";
    private static final String SIX_AND_6 = "012012";
    private static final String SIX_AND_8 = "01.10.2010";
    private static final String[] SIX = {SIX_AND_0, SIX_AND_6, SIX_AND_8, "eeeee0", "1eeeee", "01.0.1.2.e012e"};
    private static final String[] EIGHT = {
        "01.0.1.0.1.0.1.", "00|1|0|1|2|2|1|", "01.*0.~1.*20.12.|", "01.0.1.*01.0.1.~",
        "01.e1.10.~0*22|", "0101.1.2.01|", "01.0.1.0.1.e.0.1.eeee", SIX_AND_8,
    };
    private static final Checks checks = new Checks();
    private static final Expressions expressions = new Expressions(checks);

    public static void main(String[] args) {
        letter();
        unit();
        cat();
        alt();
        star();
        reverse();
        setLine();
        depth();
        letters();
        checks.end();
    }

    private static void due(String call, long got, long want) {
        checks.due(call, got, want);
    }

    private static ExprCrossword with(String postfix) {
        ExprCrossword x = new ExprCrossword(3, 4);
        expressions.push(x, postfix);
        return x;
    }

    private static void holds(String when, ExprCrossword x, int depth, int letters) {
        due("depth() " + when, x.depth(), depth);
        due("letters() " + when, x.letters(), letters);
    }

    private static void letter() {
        checks.sentence("2: c = 0 the word 0; c = 1 the word 1; c = 2 both words", () -> {
            expressions.language("0", List.of("0"));
            expressions.language("1", List.of("1"));
            expressions.language("2", List.of("0", "1"));
            for (int c = 0; c <= 2; c++) {
                expressions.emptyWord("" + c, false);
            }
        });
        checks.sentence("2: such a push counts as one letter", () -> {
            for (int c = 0; c <= 2; c++) {
                holds("after letter(" + c + ")", with("" + c), 1, 1);
            }
        });
        checks.sentence("2: c not 0, 1 or 2 answers BAD_ARG", () -> noLetter(""));
        checks.sentence("2: c is tested before the 6 expressions", () -> {
            for (String stack : SIX) {
                noLetter(stack);
            }
        });
        checks.sentence("2: c is tested before the 8 letters", () -> {
            for (String stack : EIGHT) {
                noLetter(stack);
            }
        });
        checks.sentence("2: the stack holds 6 expressions, answers FULL", () -> {
            for (String stack : SIX) {
                noRoomForLetter(stack);
            }
        });
        checks.sentence("2: letters() is 8, answers FULL", () -> {
            for (String stack : EIGHT) {
                noRoomForLetter(stack);
            }
        });
        checks.sentence("2: otherwise (5 expressions, 7 letters) answers the number afterwards", () -> {
            for (int c = 0; c <= 2; c++) {
                due("letter on none", new ExprCrossword(1, 1).letter(c), 1);
                due("letter on five units", with("eeeee").letter(c), 6);
                due("letter on five letters", with("01201").letter(c), 6);
                due("letter on 7 letters in one", with("01.0.1.0.1.0.").letter(c), 2);
                due("letter on 7 letters in five", with("01.10.201").letter(c), 6);
                due("letter after a star of 7 letters", with("01.0.1.0.1.0.*~").letter(c), 2);
            }
        });
        checks.sentence("2: when a full stack has room again a letter is pushed", () -> {
            ExprCrossword x = with(SIX_AND_6);
            due("letter(0) on six", x.letter(0), FULL);
            due("cat()", x.cat(), 5);
            due("letter(0) on five", x.letter(0), 6);
            due("letter(0) on six again", x.letter(0), FULL);
            due("alt()", x.alt(), 5);
            due("letter(1) on five with 7 letters", x.letter(1), 6);
            due("alt()", x.alt(), 5);
            due("letter(1) on five with 8 letters", x.letter(1), FULL);
            due("setLine(0)", x.setLine(0), 4);
            due("letter(1) on four with 4 letters", x.letter(1), 5);
            holds("at the end", x, 5, 5);
        });
    }

    private static void noLetter(String stack) {
        ExprCrossword x = with(stack);
        int depth = x.depth();
        int letters = x.letters();
        for (int c : NO_LETTER) {
            due("letter(" + c + ") on " + stack, x.letter(c), BAD_ARG);
        }
        holds("after wrong letters on " + stack, x, depth, letters);
    }

    private static void noRoomForLetter(String stack) {
        ExprCrossword x = with(stack);
        int depth = x.depth();
        int letters = x.letters();
        for (int c = 0; c <= 2; c++) {
            due("letter(" + c + ") on " + stack, x.letter(c), FULL);
            due("letter(" + c + ") again on " + stack, x.letter(c), FULL);
        }
        holds("after refused letters on " + stack, x, depth, letters);
    }

    private static void unit() {
        checks.sentence("3: the language that has the empty word and no other", () -> {
            expressions.language("e", List.of());
            expressions.emptyWord("e", true);
            expressions.language("e2.", List.of("0", "1"));
            expressions.language("2e.", List.of("0", "1"));
        });
        checks.sentence("3: FULL if the stack holds 6 expressions", () -> {
            for (String stack : SIX) {
                ExprCrossword x = with(stack);
                int letters = x.letters();
                due("unit() on " + stack, x.unit(), FULL);
                due("unit() again on " + stack, x.unit(), FULL);
                holds("after a refused unit on " + stack, x, 6, letters);
            }
        });
        checks.sentence("3: otherwise answers the number on the stack afterwards", () -> {
            ExprCrossword x = new ExprCrossword(1, 1);
            for (int n = 1; n <= 6; n++) {
                due("unit(), number " + n, x.unit(), n);
            }
            due("unit() on five letters", with("01201").unit(), 6);
        });
        checks.sentence("3, 10: 8 letters don't refuse a unit, which counts zero", () -> {
            ExprCrossword x = with("01.0.1.0.1.0.1.");
            for (int n = 2; n <= 6; n++) {
                due("unit() with 8 letters", x.unit(), n);
                due("letters()", x.letters(), 8);
            }
            due("unit() on six", x.unit(), FULL);
        });
    }

    /** Both calls that take two expressions off. */
    private static void takesTwo(String number, char sign) {
        checks.sentence(number + ": TOO_FEW if the stack is empty", () -> {
            ExprCrossword x = new ExprCrossword(3, 4);
            due(sign + " on none", Expressions.call(x, sign), TOO_FEW);
            due(sign + " again on none", Expressions.call(x, sign), TOO_FEW);
            holds("after a refused " + sign, x, 0, 0);
        });
        checks.sentence(number + ": TOO_FEW if the stack holds one", () -> {
            for (String one : new String[] {"0", "1", "2", "e", "01.", "01|*", "01.0.1.0.1.0.1."}) {
                ExprCrossword x = with(one);
                int letters = x.letters();
                due(sign + " on " + one, Expressions.call(x, sign), TOO_FEW);
                due(sign + " again on " + one, Expressions.call(x, sign), TOO_FEW);
                holds("after a refused " + sign, x, 1, letters);
            }
        });
        checks.sentence(number + ": TOO_FEW if only one is left, whatever was on the stack", () -> {
            ExprCrossword x = with("01");
            due("setLine(0)", x.setLine(0), 1);
            due(sign + " on the one that is left", Expressions.call(x, sign), TOO_FEW);
            due("setLine(0)", x.setLine(0), 0);
            due(sign + " on none", Expressions.call(x, sign), TOO_FEW);
        });
        checks.sentence(number + ": otherwise (two, a full stack, 8 letters) answers the number", () -> {
            due(sign + " on two", Expressions.call(with("ee"), sign), 1);
            for (String stack : SIX) {
                ExprCrossword x = with(stack);
                int letters = x.letters();
                for (int n = 5; n >= 1; n--) {
                    due(sign + " on " + stack, Expressions.call(x, sign), n);
                    holds("after " + sign + " on " + stack, x, n, letters);
                }
                due(sign + " on one", Expressions.call(x, sign), TOO_FEW);
            }
        });
    }

    /** The expressions that are left on the stack, the top first, each known by its one word. */
    private static void leaves(ExprCrossword x, String... words) {
        for (int n = 0; n < words.length; n++) {
            due("setLine(0)", x.setLine(0), words.length - 1 - n);
            due("fillings() of " + words[n], x.fillings(), 1);
            due("filling(0) of " + words[n], x.filling(0), Integer.parseInt(words[n], 2));
        }
    }

    private static void cat() {
        takesTwo("4", '.');
        checks.sentence("4: takes the top Y and the one below it X off, and no other", () -> {
            ExprCrossword x = new ExprCrossword(1, 2);
            expressions.push(x, "00.01.10.10.e.");
            leaves(x, "10", "10", "01", "00");
            ExprCrossword y = new ExprCrossword(1, 2);
            expressions.push(y, "11.01.10.e10..");
            leaves(y, "10", "10", "01", "11");
        });
        checks.sentence("4: a word of X followed by a word of Y, empty or as long as can be", () -> {
            for (String first : Expressions.WORDS) {
                for (String second : Expressions.WORDS) {
                    String postfix = Expressions.ofWord(first) + Expressions.ofWord(second) + ".";
                    expressions.language(postfix, List.of(first + second));
                    if (first.length() + second.length() < 8) {
                        expressions.emptyWord(postfix, first.isEmpty() && second.isEmpty());
                    }
                }
            }
        });
        checks.sentence("4: the words of a cat that are too long for the grid are not in a line", () -> {
            expressions.language("2*2.2.2.2.2.", List.of());
            expressions.language("2*22.22...", Expressions.wordsUpTo(4).subList(15, 31));
            expressions.language("0*0.0*0..0.", List.of("000", "0000"));
        });
    }

    private static void alt() {
        takesTwo("5", '|');
        checks.sentence("5: takes the two topmost off, and no other", () -> {
            ExprCrossword x = new ExprCrossword(1, 2);
            expressions.push(x, "00.01.11.e10.|");
            leaves(x, "10", "11", "01", "00");
            ExprCrossword y = new ExprCrossword(1, 2);
            expressions.push(y, "00.01.11.10.e|");
            leaves(y, "10", "11", "01", "00");
        });
        checks.sentence("5: the union, of empty, equal and long words, too", () -> {
            for (String first : Expressions.WORDS) {
                for (String second : Expressions.WORDS) {
                    String postfix = Expressions.ofWord(first) + Expressions.ofWord(second) + "|";
                    int order = first.compareTo(second);
                    List<String> union = order == 0 ? List.of(first)
                        : order < 0 ? List.of(first, second) : List.of(second, first);
                    expressions.language(postfix, union);
                    if (first.length() + second.length() < 8) {
                        expressions.emptyWord(postfix, first.isEmpty() || second.isEmpty());
                    }
                }
            }
        });
    }

    /** Both calls that put another expression in place of the top. */
    private static void changesTop(String number, char sign) {
        checks.sentence(number + ": TOO_FEW if the stack is empty", () -> {
            ExprCrossword x = new ExprCrossword(3, 4);
            due(sign + " on none", Expressions.call(x, sign), TOO_FEW);
            due(sign + " again on none", Expressions.call(x, sign), TOO_FEW);
            holds("after a refused " + sign, x, 0, 0);
            expressions.push(x, "0");
            due("setLine(0)", x.setLine(0), 0);
            due(sign + " when the last was taken off", Expressions.call(x, sign), TOO_FEW);
        });
        checks.sentence(number + ": otherwise (one to six, 8 letters) answers the number", () -> {
            ExprCrossword x = new ExprCrossword(3, 4);
            for (int n = 1; n <= 6; n++) {
                expressions.push(x, "0");
                due(sign + " on " + n, Expressions.call(x, sign), n);
                holds("after " + sign, x, n, n);
            }
            for (String stack : EIGHT) {
                ExprCrossword y = with(stack);
                int depth = y.depth();
                due(sign + " on " + stack, Expressions.call(y, sign), depth);
                holds("after " + sign, y, depth, 8);
            }
        });
        checks.sentence(number + ": the ones below the top stay as they are", () -> {
            ExprCrossword x = new ExprCrossword(1, 2);
            expressions.push(x, "01.01.01.");
            due(sign + " on three", Expressions.call(x, sign), 3);
            for (int n = 2; n >= 0; n--) {
                due("setLine(0)", x.setLine(0), n);
                due("fillings()", x.fillings(), 1);
                due("filling(0)", x.filling(0), n == 2 && sign == '~' ? 2 : 1);
            }
        });
    }

    private static void star() {
        changesTop("6", '*');
        checks.sentence("6: zero words make the empty word", () -> {
            for (String word : Expressions.WORDS) {
                expressions.emptyWord(Expressions.ofWord(word) + "*", true);
            }
            expressions.emptyWord("01.0.1.0.1.0.*", true);
        });
        checks.sentence("6: one or more words one after another, as many as the longest line takes", () -> {
            for (String word : Expressions.wordsUpTo(8)) {
                List<String> due = new ArrayList<>();
                for (int n = 1; n <= 4; n++) {
                    due.add(word.repeat(n));
                }
                expressions.language(Expressions.ofWord(word) + "*", word.isEmpty() ? List.of() : due);
            }
            expressions.language("2*", Expressions.WORDS);
            expressions.language("22.2.2.*", Expressions.WORDS.subList(15, 31));
            expressions.language("22.2.2.2.*", List.of());
        });
        checks.sentence("6: a star of a star, of the unit and of what has the empty word", () -> {
            expressions.language("e*", List.of());
            expressions.language("e**", List.of());
            expressions.language("2**", Expressions.WORDS);
            expressions.language("01.e|*", List.of("01", "0101"));
            expressions.language("01.*1*|*", List.of("1", "01", "11", "011", "101", "111",
                "0101", "0111", "1011", "1101", "1111"));
        });
    }

    private static void reverse() {
        changesTop("7", '~');
        checks.sentence("7: read from the last letter to the first, for words of every length", () -> {
            for (String word : Expressions.wordsUpTo(8)) {
                String turned = new StringBuilder(word).reverse().toString();
                expressions.language(Expressions.ofWord(word) + "~", List.of(turned));
                expressions.language(Expressions.ofWord(word) + "~~", List.of(word));
                if (word.length() < 8) {
                    expressions.emptyWord(Expressions.ofWord(word) + "~", word.isEmpty());
                }
            }
            expressions.language("2*~", Expressions.WORDS);
        });
    }

    private static void setLine() {
        checks.sentence("8: line not 0 to R + C - 1 answers BAD_ARG", () -> {
            for (Sizes size : Sizes.ALL) {
                for (int line : size.noLines()) {
                    ExprCrossword x = size.make();
                    expressions.push(x, "0e");
                    due(size + " setLine(" + line + ")", x.setLine(line), BAD_ARG);
                    holds("after a wrong line", x, 2, 1);
                    due("fillings()", x.fillings(), size.numbers());
                }
            }
        });
        checks.sentence("8: the line is tested before the stack", () -> {
            for (Sizes size : Sizes.ALL) {
                ExprCrossword x = size.make();
                for (int line : size.noLines()) {
                    due(size + " setLine(" + line + ") on none", x.setLine(line), BAD_ARG);
                }
            }
        });
        checks.sentence("8: empty stack answers TOO_FEW", () -> {
            for (Sizes size : Sizes.ALL) {
                ExprCrossword x = size.make();
                for (int line = 0; line < size.lines(); line++) {
                    due(size + " setLine(" + line + ") on none", x.setLine(line), TOO_FEW);
                    due("lineWords(" + line + ")", x.lineWords(line), size.words(line));
                }
                holds("after refused lines", x, 0, 0);
                expressions.set(x, 0, "2*");
                due(size + " setLine(0) when the last was taken off", x.setLine(0), TOO_FEW);
            }
        });
        checks.sentence("8: every line from 0 to R + C - 1 takes the language, and no other line", () -> {
            for (Sizes size : Sizes.ALL) {
                for (int line = 0; line < size.lines(); line++) {
                    ExprCrossword x = size.make();
                    expressions.set(x, line, "00*.");
                    for (int other = 0; other < size.lines(); other++) {
                        due(size + " lineWords(" + other + ") after setLine(" + line + ")",
                            x.lineWords(other), other == line ? 1 : size.words(other));
                    }
                    due(size + " fillings()", x.fillings(), size.numbers() / size.words(line));
                }
            }
        });
        checks.sentence("8: takes the top off, which becomes the line's language in place of the one before", () -> {
            ExprCrossword x = new ExprCrossword(1, 2);
            expressions.push(x, "00.01.10.11.ee");
            due("setLine(0) on six", x.setLine(0), 5);
            due("fillings() of a unit", x.fillings(), 0);
            due("setLine(0) on five", x.setLine(0), 4);
            due("fillings() of a unit", x.fillings(), 0);
            leaves(x, "11", "10", "01", "00");
        });
        checks.sentence("8: otherwise answers the number afterwards, from a full stack to an empty one", () -> {
            for (String stack : SIX) {
                ExprCrossword x = with(stack);
                for (int n = 5; n >= 0; n--) {
                    due("setLine(6) on " + stack, x.setLine(6), n);
                    due("depth()", x.depth(), n);
                }
                due("setLine(6) on none", x.setLine(6), TOO_FEW);
            }
        });
        checks.sentence("8: a language with the empty word alone, or with longer words alone, fits no line", () -> {
            for (Sizes size : Sizes.ALL) {
                for (int line = 0; line < size.lines(); line++) {
                    for (String postfix : new String[] {"e", "e*", "22.2.2.2.", "01.0.1.0.1.0.1."}) {
                        ExprCrossword x = size.make();
                        expressions.set(x, line, postfix);
                        due(size + " lineWords(" + line + ") of " + postfix, x.lineWords(line), 0);
                        due(size + " fillings()", x.fillings(), 0);
                        due(size + " filling(0)", x.filling(0), NONE);
                    }
                }
            }
        });
    }

    private static void depth() {
        checks.sentence("9: the number of expressions on the stack, 0 to 6", () -> {
            ExprCrossword x = new ExprCrossword(2, 2);
            due("depth() of none", x.depth(), 0);
            for (int n = 1; n <= 6; n++) {
                expressions.push(x, n % 2 == 0 ? "e" : "2");
                due("depth()", x.depth(), n);
            }
            due("letter(0) on six", x.letter(0), FULL);
            due("unit() on six", x.unit(), FULL);
            due("depth() after refused pushes", x.depth(), 6);
            for (int n = 5; n >= 0; n--) {
                due("setLine(0)", x.setLine(0), n);
                due("depth()", x.depth(), n);
            }
            due("setLine(0) on none", x.setLine(0), TOO_FEW);
            due("star() on none", x.star(), TOO_FEW);
            due("cat() on none", x.cat(), TOO_FEW);
            due("depth() after refused calls", x.depth(), 0);
        });
    }

    private static void letters() {
        checks.sentence("10: 0 to 8 letters: a push by letter counts one", () -> {
            ExprCrossword x = new ExprCrossword(2, 2);
            due("letters() of none", x.letters(), 0);
            for (int n = 1; n <= 8; n++) {
                expressions.push(x, n > 1 ? "2." : "2");
                due("letters()", x.letters(), n);
            }
            due("the ninth letter", x.letter(2), FULL);
            due("letters() after a refused letter", x.letters(), 8);
        });
        checks.sentence("10: unit zero", () -> holds("of units", with(SIX_AND_0), 6, 0));
        checks.sentence("10: cat gives the sum of the two", () -> {
            holds("0 and 0", with("ee."), 1, 0);
            holds("0 and 1", with("e0."), 1, 1);
            holds("1 and 0", with("0e."), 1, 1);
            holds("4 and 4", with("00.0.0.11.1.1.."), 1, 8);
            holds("1 and 7", with("000.0.0.0.0.0.."), 1, 8);
            holds("two of three", with("00.11."), 2, 4);
        });
        checks.sentence("10: alt gives the sum of the two", () -> {
            holds("0 and 0", with("ee|"), 1, 0);
            holds("0 and 1", with("e0|"), 1, 1);
            holds("1 and 0", with("0e|"), 1, 1);
            holds("the same twice", with("00|"), 1, 2);
            holds("4 and 4", with("00|0|0|11|1|1||"), 1, 8);
            holds("1 and 7", with("000|0|0|0|0|0||"), 1, 8);
        });
        checks.sentence("10: star keeps it", () -> {
            holds("0", with("e*"), 1, 0);
            holds("1", with("0*"), 1, 1);
            holds("8", with("01.0.1.0.1.0.1.*"), 1, 8);
        });
        checks.sentence("10: reverse keeps it", () -> {
            holds("0", with("e~"), 1, 0);
            holds("1", with("0~"), 1, 1);
            holds("8", with("01.0.1.0.1.0.1.~"), 1, 8);
        });
        checks.sentence("10: what setLine takes off is no longer counted", () -> {
            ExprCrossword x = with("01.0.e12.*1");
            holds("before", x, 4, 6);
            int[] left = {5, 3, 3, 0};
            for (int n = 0; n < 4; n++) {
                due("setLine(0)", x.setLine(0), 3 - n);
                due("letters()", x.letters(), left[n]);
            }
            expressions.push(x, "01.0.1.0.1.0.1.");
            due("letters() up to the limit again", x.letters(), 8);
            due("setLine(0)", x.setLine(0), 0);
            due("letters()", x.letters(), 0);
            due("letter(0)", x.letter(0), 1);
        });
    }
}
