/** The boundary cases in the sentences on definition texts, selectors and fault positions: a method for each. */
public final class TextEdgesTest extends LabChecks {
    private static final int NONE = -1;

    public static void main(String[] args) {
        TextEdgesTest test = new TextEdgesTest();
        test.mostCharacters();
        test.spaces();
        test.forms();
        test.selectors();
        test.open();
        test.faultPosition();
        test.check.end("TextEdgesTest");
    }

    /** Whether a text has a fault, and where. */
    private void fault(String text, int position) {
        ContextualGrammarLab lab = new ContextualGrammarLab();
        type(lab, text);
        boolean faulty = position != NONE;
        check.is("define " + text, faulty ? "throws." + ARGUMENT : "done", Check.done(lab::define));
        check.is("fault of " + text, position, lab::faultPosition);
        check.is("the buffer after " + text, 0, () -> lab.count(4));
        check.is("the grammar after " + text, faulty ? "0016" : "defined", () -> faulty ? counts(lab) : "defined");
    }

    private static String counts(ContextualGrammarLab lab) {
        return "" + lab.count(0) + lab.count(1) + lab.count(2) + lab.count(3);
    }

    /** Whether the whole of a word fulfils a selector. */
    private void holds(String selector, String word, boolean due) {
        ContextualGrammarLab lab = labOf("mode external", "limit 9", "context a, " + selector);
        take(lab, word);
        check.is(selector + " of " + word, due ? 1 : 0, lab::insertions);
    }

    private void mostCharacters() {
        check.about("a text buffer of at most 60 characters");
        String longest = "context a, " + "*|".repeat(24) + "*";
        ContextualGrammarLab lab = new ContextualGrammarLab();
        type(lab, longest);
        check.is("60 characters", 60, () -> lab.count(4));
        check.refuses("a 61st", STATE, () -> lab.append('|'));
        check.is("the text of 60 is whole", 0, lab::define);
        check.is("it has no fault", NONE, lab::faultPosition);
        for (int i = 1; i < 5; i++) {
            check.is("another text of 60", i, () -> define(lab, longest));
        }
        fault("context a, " + "*|".repeat(24) + "^", 60);
        fault("context a, " + "*|".repeat(24) + "|", 59);
        fault("x".repeat(60), 0);
    }

    private void spaces() {
        noSpace();
        oneSpace();
        noOtherSpace();
    }

    private void noSpace() {
        check.about("there is exactly one space after each of the words axiom, context, mode and limit, and one before the selector");
        fault("axioma", 5);
        fault("contexta,b *", 7);
        fault("modeleft", 4);
        fault("limit5", 5);
        fault("context a,b*", 11);
        fault("context a,*", 10);
    }

    private void oneSpace() {
        fault("axiom a", NONE);
        fault("context a,b *", NONE);
        fault("context a, *", NONE);
        fault("mode left", NONE);
        fault("limit 5", NONE);
        fault("axiom  a", 6);
        fault("context  a,b *", 8);
        fault("mode  left", 5);
        fault("limit  5", 6);
        fault("context a,b  *", 12);
        fault("context a,  *", 11);
        fault("axiom\ta", 5);
    }

    private void noOtherSpace() {
        check.about("and no other space");
        fault(" axiom a", 0);
        fault("axiom a ", 7);
        fault("axiom abcabcab ", 14);
        fault("axiom a b", 7);
        fault("context a ,b *", 9);
        fault("context a, b *", 12);
        fault("context a,b * ", 13);
        fault("context a, *& *", 13);
        fault("context a, * &*", 12);
        fault("context a, ! *", 12);
        fault("context a, ( *)", 12);
        fault("context a, (* )", 13);
        fault("context a, a =1", 12);
        fault("context a, a= 1", 13);
        fault("context a, ^ a", 12);
        fault("context a, ^a ", 13);
        fault("mode le ft", 7);
        fault("mode left ", 9);
        fault("limit 5 ", 7);
        fault("ax iom a", 2);
    }

    private void forms() {
        firstWord();
        axiomForm();
        contextForm();
        modeForm();
        limitForm();
    }

    private void firstWord() {
        check.about("A definition text has one of the following forms");
        fault("a", 1);
        fault("c", 1);
        fault("m", 1);
        fault("l", 1);
        fault("b", 0);
        fault("Axiom a", 0);
        fault("ac", 1);
        fault("axiom", 5);
        fault("context", 7);
        fault("mode", 4);
        fault("limit", 5);
        fault("axions", 4);
        fault("contect", 5);
        fault("model", 4);
        fault("limits", 5);
    }

    private void axiomForm() {
        check.about("axiom W, where W has 1 to 8 letters.");
        fault("axiom ", 6);
        fault("axiom c", NONE);
        fault("axiom abcabcab", NONE);
        fault("axiom abcabcabc", 14);
        fault("axiom abcabcabd", 14);
        fault("axiom `", 6);
        fault("axiom d", 6);
        fault("axiom abd", 8);
        fault("axiom A", 6);
        fault("axiom " + (char) ('a' + 256), 6);
        fault("axiom a,", 7);
    }

    private void contextForm() {
        check.about("context L,R S, where L is the left part, R the right part (possibly empty) and S the selector.");
        fault("context ", 8);
        fault("context ,", 8);
        fault("context a", 9);
        fault("context abc", 11);
        fault("context abca", 11);
        fault("context a *", 9);
        fault("context a,", 10);
        fault("context a,,", 10);
        fault("context a,b,", 11);
        fault("context a,abc", 13);
        fault("context a,abca", 13);
        fault("context a,d", 10);
        fault("context a, ", 11);
        fault("context abc,abc *", NONE);
        fault("context abc,abc ", 16);
        fault("context a, *", NONE);
    }

    private void modeForm() {
        check.about("mode M, where M is one of the words external, internal, maximal, minimal and left.");
        fault("mode external", NONE);
        fault("mode internal", NONE);
        fault("mode maximal", NONE);
        fault("mode minimal", NONE);
        fault("mode left", NONE);
        fault("mode ", 5);
        fault("mode externa", 12);
        fault("mode externall", 13);
        fault("mode extra", 8);
        fault("mode interest", 10);
        fault("mode mi", 7);
        fault("mode ml", 6);
        fault("mode maxinal", 9);
        fault("mode minimax", 11);
        fault("mode Left", 5);
        fault("mode lefta", 9);
        fault("mode 1", 5);
    }

    private void limitForm() {
        check.about("limit N, where N is a digit from 1 to 9.");
        fault("limit ", 6);
        fault("limit 0", 6);
        fault("limit 1", NONE);
        fault("limit 9", NONE);
        fault("limit /", 6);
        fault("limit :", 6);
        fault("limit 12", 7);
        fault("limit 01", 6);
        fault("limit -1", 6);
        fault("limit " + (char) ('1' + 256), 6);
    }

    private void selectors() {
        alternatives();
        conjunctions();
        negations();
        brackets();
        comparisons();
        relationsAndDigits();
        numbersOfLetters();
        patterns();
        placesOfPatterns();
    }

    private void alternatives() {
        check.about("S: T { \"|\" T }, true if at least one part is true.");
        holds("a=1", "a", true);
        holds("a=1|b=1", "a", true);
        holds("a=1|b=1", "b", true);
        holds("a=1|b=1", "ab", true);
        holds("a=1|b=1", "c", false);
        holds("a=3|b=3|c=1|#=8|#=7", "c", true);
        holds("a=3|b=3|c=3|#=8|#=7", "c", false);
        holds("!*|!*|!*|!*|!*|!*|!*|!*|!*|!*|!*|*", "", true);
        holds("*|!*|!*|!*|!*|!*|!*|!*|!*|!*|!*|!*", "", true);
        fault("context a, |", 11);
        fault("context a, |*", 11);
        fault("context a, *|", 13);
        fault("context a, *||*", 13);
    }

    private void conjunctions() {
        check.about("T: F { \"&\" F }, true if all parts are true.");
        holds("a=1&b=1", "ab", true);
        holds("a=1&b=1", "a", false);
        holds("a=1&b=1", "b", false);
        holds("*&*&*&*&*&*&*&*&*&*&*&*&*&*&*&*&*", "", true);
        holds("*&*&*&*&*&*&*&*&*&*&*&*&*&*&*&*&!*", "", false);
        holds("!*&*&*&*&*&*&*&*&*&*&*&*&*&*&*&*", "", false);
        holds("a=1|b=1&c=1", "a", true);
        holds("c=1&b=1|a=1", "a", true);
        holds("b=1&c=1|a=1&#=2|#=3", "ba", true);
        fault("context a, &*", 11);
        fault("context a, *&", 13);
        fault("context a, *&&*", 13);
        fault("context a, *&|*", 13);
        fault("context a, **", 12);
    }

    private void negations() {
        check.about("F: \"!\" F, the negation");
        holds("!*", "", false);
        holds("!!*", "", true);
        holds("!a=1", "a", false);
        holds("!a=1", "b", true);
        holds("!a=1&b=1", "ab", false);
        holds("!a=1&b=1", "b", true);
        holds("!a=1|b=1", "ab", true);
        holds("!(a=1|b=1)", "ab", false);
        holds("!^a", "ba", true);
        fault("context a, !", 12);
        fault("context a, !&*", 12);
        fault("context a, *!", 12);
        fault("context a, *!*", 12);
    }

    private void brackets() {
        check.about("or \"(\" S \")\"; or \"*\", which is always true");
        holds("*", "", true);
        holds("*", "abcabcab", true);
        holds("(*)", "a", true);
        holds("(a=1|b=1)&c=1", "a", false);
        holds("c=1&(a=1|b=1)", "bc", true);
        holds("(a=1&b=1|c=1)", "c", true);
        holds("*&(*&*)", "", true);
        holds("*&(*&!*)", "", false);
        holds("*&(*|!*)", "", true);
        holds("!*&(*|*)", "", false);
        holds("!*|(*&*)", "", true);
        holds("*|(!*&*)", "", true);
        holds("!*|(!*|!*)", "", false);
        holds("*&!(!*&*)", "", true);
        holds("*&(!*|(*&(!*|*)))", "", true);
        holds("*&(*&(*&(*&(*&(*&*)))))", "", true);
        holds("!*|(!*|(!*|(!*|(!*|(!*|!*)))))", "", false);
        fault("context a, (", 12);
        fault("context a, ()", 12);
        fault("context a, )", 11);
        fault("context a, (*", 13);
        fault("context a, (*)", NONE);
        fault("context a, (*))", 14);
        fault("context a, (*)(", 14);
        fault("context a, (*|", 14);
        fault("context a, (*|)", 14);
        fault("context a, *(", 12);
    }

    private void comparisons() {
        check.about("A comparison is one of the letters a, b and c or the character \"#\", then \"<\", \"=\" or \">\", then a digit.");
        for (String text : new String[] {"a", "b", "c", "#"}) {
            fault("context a, " + text, 12);
            fault("context a, " + text + "<", 13);
            fault("context a, " + text + "=", 13);
            fault("context a, " + text + ">", 13);
            fault("context a, " + text + "<0", NONE);
            fault("context a, " + text + "=9", NONE);
            fault("context a, " + text + ">5", NONE);
        }
        fault("context a, `<1", 11);
        fault("context a, d<1", 11);
        fault("context a, \"<1", 11);
        fault("context a, a;1", 12);
        fault("context a, a?1", 12);
        fault("context a, a</", 13);
        fault("context a, a<:", 13);
        fault("context a, a<10", 14);
        fault("context a, a<=1", 13);
        fault("context a, a1", 12);
        fault("context a, ab<1", 12);
        fault("context a, 1>a", 11);
    }

    private void relationsAndDigits() {
        check.about("It compares the number of occurrences of the letter in the word, or for \"#\" the length of the word, with the digit.");
        String[] words = {"", "a", "aa", "aaa"};
        for (int digit = 0; digit < words.length; digit++) {
            for (int number = 0; number < words.length; number++) {
                for (String counted : new String[] {"a", "#"}) {
                    holds(counted + "<" + digit, words[number], number < digit);
                    holds(counted + "=" + digit, words[number], number == digit);
                    holds(counted + ">" + digit, words[number], number > digit);
                }
            }
        }
        holds("#<9", "abcabcab", true);
        holds("#<8", "abcabcab", false);
        holds("#=8", "abcabcab", true);
        holds("#>8", "abcabcab", false);
        holds("#>7", "abcabcab", true);
    }

    private void numbersOfLetters() {
        holds("a=3&b=3&c=2", "abcabcab", true);
        holds("a=1&b=0&c=0", "a", true);
        holds("a=0&b=1&c=0", "b", true);
        holds("a=0&b=0&c=1", "c", true);
        holds("a=2&b=1&c=0", "aba", true);
        holds("b=8", "bbbbbbbb", true);
        holds("c>7", "cccccccc", true);
        holds("c<9", "cccccccc", true);
        holds("c=9", "cccccccc", false);
    }

    private void patterns() {
        check.about("A pattern is \"^\", \"$\" or \"~\" and then 1 to 3 letters.");
        for (String sign : new String[] {"^", "$", "~"}) {
            fault("context a, " + sign, 12);
            fault("context a, " + sign + "&", 12);
            fault("context a, " + sign + "d", 12);
            fault("context a, " + sign + "`", 12);
            fault("context a, " + sign + "c", NONE);
            fault("context a, " + sign + "ca", NONE);
            fault("context a, " + sign + "cab", NONE);
            fault("context a, " + sign + "caba", 15);
            fault("context a, " + sign + "a=1", 13);
            fault("context a, " + sign + "abc=1", 15);
            fault("context a, " + sign + "a" + sign + "a", 13);
            fault("context a, " + sign + "a|" + sign + "b", NONE);
        }
    }

    private void placesOfPatterns() {
        check.about("It is true if the word begins with these letters, ends with them, or contains them as a factor, respectively.");
        String[] patterns = {"a", "c", "ab", "bc", "abc", "bca", "cab", "aa", "cc", "aaa", "ccc"};
        String[] words = {"", "a", "c", "ab", "bc", "abc", "bca", "abca", "aabc", "abcc", "abcab", "cabca", "abcabcab", "aacaacaa",
            "aa", "cc", "aaa", "ccc", "aaab", "baaa", "cccb", "bccc", "abaaabbb", "cbcccbbb"};
        for (String pattern : patterns) {
            for (String word : words) {
                holds("^" + pattern, word, word.startsWith(pattern));
                holds("$" + pattern, word, word.endsWith(pattern));
                holds("~" + pattern, word, word.contains(pattern));
            }
        }
    }

    private void open() {
        sixOpen();
        closedNegations();
        closedBrackets();
    }

    private void sixOpen() {
        check.about("at most 6 of them are open at the same time");
        for (String six : new String[] {"!!!!!!", "((((((", "!(!(!(", "(!(!(!", "!!!(((", "(((!!!", "(!!!!!", "!(((((", "!!!!!("}) {
            String closing = ")".repeat((int) six.chars().filter(c -> c == '(').count());
            fault("context a, " + six + "*" + closing, NONE);
            fault("context a, " + six + "!*" + closing, 17);
            fault("context a, " + six + "(*)" + closing, 17);
            fault("context a, " + six, 17);
        }
        holds("!!!!!!*", "a", true);
        holds("((((((a=1))))))", "a", true);
        holds("!(!(!(a=1)))", "a", false);
    }

    private void closedNegations() {
        check.about("A \"!\" is open until the end of its F");
        fault("context a, !!!!!!*&!!!!!!*|!!!!!!*", NONE);
        fault("context a, !!!!!!*&!!!!!!!*", 25);
        fault("context a, !*&((((((*))))))", NONE);
        fault("context a, !((((((*))))))", 17);
        fault("context a, !(((((*)))))&((((((*))))))", NONE);
        fault("context a, (!*&!*&!*&!*&!*&!*&!*&!*)", NONE);
        fault("context a, !^a|!!!!!!^a", NONE);
        fault("context a, !a=1|!!!!!!a=1", NONE);
        fault("context a, (((((!*&!*)))))", NONE);
        fault("context a, (((((!*&!!*)))))", 20);
    }

    private void closedBrackets() {
        check.about("and a \"(\" until its \")\"");
        fault("context a, ((((((*))))))&((((((*))))))", NONE);
        fault("context a, ((((((*))))))&(((((((*)))))))", 31);
        fault("context a, ((((((*)&(*))))))", NONE);
        fault("context a, ((((((*)&((*)))))))", 21);
        fault("context a, ((((((*)&!*)))))", NONE);
        fault("context a, ((((((*&!*))))))", 19);
        fault("context a, ((((((*)|*)|*)|*)|*)|*)", NONE);
    }

    private void faultPosition() {
        check.about("The fault position of a text is the index of the first character that cannot continue a definition text");
        fault("?axiom", 0);
        fault("a?iom a?", 1);
        fault("axiom ?", 6);
        fault("axiom a?", 7);
        fault("context a, ?", 11);
        fault("context a, *?", 12);
        fault("context a, \u0000", 11);
        fault("\u0000", 0);
        fault("axiom a\u0000", 7);
        fault("axiom a\uffff", 7);
        fault("limit 5\u0000", 7);
        fault("mode left\u0000", 9);
        check.about("it is the length of the text if the text ends too early");
        fault("", 0);
        String whole = "context abc,ab !(a<1&$abc)";
        for (int length = 0; length < whole.length(); length++) {
            fault(whole.substring(0, length), length);
        }
        fault(whole, NONE);
    }
}
