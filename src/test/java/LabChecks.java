import java.util.StringJoiner;

/** What the tests with hand-worked answers have in common: laboratories made from texts, and words as texts. */
abstract class LabChecks {
    static final String BOUNDS = "IndexOutOfBoundsException";
    static final String ARGUMENT = "IllegalArgumentException";
    static final String STATE = "IllegalStateException";
    static final String LARGE = "UnsupportedOperationException";
    static final String MISSING = "NoSuchElementException";

    final Check check = new Check();

    static void type(ContextualGrammarLab lab, String text) {
        for (char c : text.toCharArray()) {
            lab.append(c);
        }
    }

    static int define(ContextualGrammarLab lab, String text) {
        type(lab, text);
        return lab.define();
    }

    static ContextualGrammarLab labOf(String... texts) {
        ContextualGrammarLab lab = new ContextualGrammarLab();
        for (String text : texts) {
            define(lab, text);
        }
        return lab;
    }

    static void take(ContextualGrammarLab lab, String word) {
        lab.clearWord();
        for (char c : word.toCharArray()) {
            lab.addLetter(c);
        }
    }

    static String word(ContextualGrammarLab lab) {
        StringBuilder word = new StringBuilder();
        for (int i = 0; i < lab.wordLength(); i++) {
            word.append(lab.letterAt(i));
        }
        return word.toString();
    }

    /** A language with more than 300 words. */
    static ContextualGrammarLab large() {
        return labOf("axiom a", "context a, *", "context b, *", "context c, *", "limit 8");
    }

    /** A language with exactly 300 words; with "context bb,ac a=1&#=1" it has 301. */
    static ContextualGrammarLab full() {
        return labOf("limit 5", "mode external", "context a, *", "context b, *", "context c, *",
                "axiom a", "axiom b", "axiom cc", "axiom bbc", "axiom abac", "axiom aaaac");
    }

    /** A word in a list of words: the empty word is shown as a minus sign. */
    private static String shown(ContextualGrammarLab lab) {
        return lab.wordLength() == 0 ? "-" : word(lab);
    }

    /** The words of the language in their order. */
    static String words(ContextualGrammarLab lab) {
        StringJoiner words = new StringJoiner(" ");
        for (int i = 0; i < lab.size(); i++) {
            lab.takeWord(i);
            words.add(shown(lab));
        }
        return words.toString();
    }

    /** What the possible insertions make of a word, each as its context and its result. */
    static String results(ContextualGrammarLab lab, String word) {
        StringJoiner results = new StringJoiner(" ");
        take(lab, word);
        int number = lab.insertions();
        for (int i = 0; i < number; i++) {
            take(lab, word);
            results.add(lab.insert(i) + shown(lab));
        }
        return results.toString();
    }

    /** What the reductions make of a word, each as its context and the word that is left. */
    static String reduced(ContextualGrammarLab lab, String word) {
        StringJoiner results = new StringJoiner(" ");
        take(lab, word);
        int number = lab.reductions();
        for (int i = 0; i < number; i++) {
            take(lab, word);
            results.add(lab.reduce(i) + shown(lab));
        }
        return results.toString();
    }

    static String forms(ContextualGrammarLab lab, String word) {
        StringJoiner forms = new StringJoiner(" ");
        take(lab, word);
        int number = lab.normalForms();
        for (int i = 0; i < number; i++) {
            take(lab, word);
            lab.normalize(i);
            forms.add(shown(lab));
        }
        return forms.toString();
    }

    /** The best derivation of a word: its length, then each insertion as context, s and e. */
    static String derivation(ContextualGrammarLab lab, String word) {
        take(lab, word);
        int length = lab.derivationLength();
        StringJoiner steps = new StringJoiner(" ");
        steps.add(String.valueOf(length));
        for (int step = 0; step < length; step++) {
            steps.add("" + lab.derivationStep(step, 0) + lab.derivationStep(step, 1) + lab.derivationStep(step, 2));
        }
        return steps.toString();
    }
}
