/** The boundary cases in the sentences of the promises: a method for each promise, a check for each case. */
public final class PromiseEdgesTest extends LabChecks {
    /** Numbers that are far away from everything that has a number. */
    private static final int[] FAR = {512, 65536, Integer.MAX_VALUE, Integer.MIN_VALUE, -100};

    public static void main(String[] args) {
        PromiseEdgesTest test = new PromiseEdgesTest();
        test.definitions();
        test.languages();
        test.contexts();
        test.words();
        test.derivations();
        test.reductions();
        test.arrays();
        test.snapshot();
        test.check.end("PromiseEdgesTest");
    }

    private interface Numbered {
        Object call(int number);
    }

    /** All numbers below the bound are there, and those beside them and far away are not. */
    private void bounded(String name, int bound, String exception, Numbered method) {
        for (int i = 0; i < bound; i++) {
            int number = i;
            check.is(name + " " + i + " is there", true, () -> method.call(number) != null);
        }
        outOfBounds(name, bound, exception, method);
    }

    private void outOfBounds(String name, int bound, String exception, Numbered method) {
        check.is(name + " " + bound, "throws." + exception, () -> method.call(bound));
        check.is(name + " -1", "throws." + exception, () -> method.call(-1));
        for (int far : FAR) {
            check.is(name + " " + far, "throws." + exception, () -> method.call(far));
        }
    }

    private void definitions() {
        newObject();
        append();
        defineReturns();
        defineEmptiesTheBuffer();
        defineRefuses();
        faultPosition();
        removeAxiom();
        removeContext();
        count();
    }

    private void newObject() {
        check.about("Creates a laboratory without axioms and contexts, in mode internal and with limit 6.");
        ContextualGrammarLab lab = new ContextualGrammarLab();
        check.is("no axioms", 0, () -> lab.count(0));
        check.is("no contexts", 0, () -> lab.count(1));
        check.is("mode internal", 1, () -> lab.count(2));
        check.is("limit 6", 6, () -> lab.count(3));
        check.is("an empty buffer", 0, () -> lab.count(4));
        check.is("no words", 0, lab::size);
        check.is("internal in use", "0ca 0ca 0ac", () -> results(labOf("context c, *"), "a"));
        check.is("limit 6 in use", 6, labOf("axiom a", "context a, *")::size);
    }

    private void append() {
        check.about("Throws IllegalStateException if the buffer contains 60 characters");
        ContextualGrammarLab lab = new ContextualGrammarLab();
        type(lab, "?".repeat(59));
        check.does("the 60th", () -> lab.append('?'));
        check.refuses("the 61st", STATE, () -> lab.append('?'));
        check.is("still 60", 60, () -> lab.count(4));
        check.refuses("emptied by define", ARGUMENT, lab::define);
        type(lab, "?".repeat(60));
        check.refuses("the 61st again", STATE, () -> lab.append('?'));
    }

    private void defineReturns() {
        check.about("Returns the number of the new axiom or context, the number of the previous mode, or the previous limit.");
        ContextualGrammarLab lab = new ContextualGrammarLab();
        check.is("the first axiom", 0, () -> define(lab, "axiom a"));
        check.is("the second axiom", 1, () -> define(lab, "axiom b"));
        check.is("the first context", 0, () -> define(lab, "context a, *"));
        check.is("the second context", 1, () -> define(lab, "context a, *"));
        check.is("the mode of a new object", 1, () -> define(lab, "mode left"));
        check.is("the mode set before", 4, () -> define(lab, "mode left"));
        check.is("the same mode", 4, () -> define(lab, "mode external"));
        check.is("mode 0", 0, () -> define(lab, "mode maximal"));
        check.is("the limit of a new object", 6, () -> define(lab, "limit 9"));
        check.is("the highest limit", 9, () -> define(lab, "limit 1"));
        check.is("the lowest limit", 1, () -> define(lab, "limit 1"));
        check.is("the same limit", 1, () -> define(lab, "limit 6"));
    }

    private void emptied(ContextualGrammarLab lab, String text, String answer) {
        check.is("define " + text, answer, () -> define(lab, text));
        check.is("buffer after " + text, 0, () -> lab.count(4));
        check.is("a next text is read for itself", "defined", () -> define(lab, "limit 6") > 0 ? "defined" : "not");
    }

    private void defineEmptiesTheBuffer() {
        check.about("Reads the text buffer as a definition text and empties the buffer, also if an exception is thrown.");
        ContextualGrammarLab lab = new ContextualGrammarLab();
        emptied(lab, "axiom a", "0");
        emptied(lab, "context a, #=0", "0");
        emptied(lab, "mode left", "1");
        emptied(lab, "limit 3", "6");
        emptied(lab, "axiom a", "throws." + STATE);
        emptied(lab, "axiom", "throws." + ARGUMENT);
        emptied(lab, "axiom aa?", "throws." + ARGUMENT);
        emptied(lab, "x".repeat(60), "throws." + ARGUMENT);
        emptied(lab, "", "throws." + ARGUMENT);
        for (String word : new String[] {"b", "c", "ab", "ac", "ba"}) {
            define(lab, "axiom " + word);
        }
        emptied(lab, "axiom bb", "throws." + STATE);
        for (int i = 1; i < 5; i++) {
            define(lab, "context a, *");
        }
        emptied(lab, "context a, *", "throws." + STATE);
    }

    private void defineRefuses() {
        check.about("Throws IllegalStateException if there are already 6 axioms or 5 contexts, respectively, or the word is already an axiom");
        ContextualGrammarLab axioms = labOf("axiom a", "axiom b", "axiom c", "axiom ab", "axiom bc", "axiom ca");
        check.refuses("a seventh axiom", STATE, () -> define(axioms, "axiom aa"));
        check.refuses("one that is there", STATE, () -> define(axioms, "axiom ca"));
        check.is("a context is added", 0, () -> define(axioms, "context a, *"));
        check.is("a mode is replaced", 1, () -> define(axioms, "mode left"));
        check.is("a limit is replaced", 6, () -> define(axioms, "limit 2"));
        ContextualGrammarLab contexts = labOf("context a, *", "context a, *", "context a, *", "context a, *", "context a, *");
        check.refuses("a sixth context", STATE, () -> define(contexts, "context b, *"));
        check.is("an axiom is added", 0, () -> define(contexts, "axiom a"));
        check.refuses("the only axiom again", STATE, () -> define(contexts, "axiom a"));
        check.is("five contexts", 5, () -> contexts.count(1));
        check.is("one axiom", 1, () -> contexts.count(0));
    }

    private void faultPosition() {
        check.about("Returns the fault position, or -1 if the text had no fault or define has not been called.");
        ContextualGrammarLab lab = new ContextualGrammarLab();
        check.is("define has not been called", -1, lab::faultPosition);
        type(lab, "axiom x");
        check.is("it still has not been called", -1, lab::faultPosition);
        check.refuses("a fault", ARGUMENT, lab::define);
        check.is("the fault", 6, lab::faultPosition);
        check.is("the fault again", 6, lab::faultPosition);
        type(lab, "axiom a");
        check.is("appending changes nothing", 6, lab::faultPosition);
        lab.define();
        check.is("no fault", -1, lab::faultPosition);
        check.refuses("the empty text", ARGUMENT, lab::define);
        check.is("a fault at 0", 0, lab::faultPosition);
        check.refuses("no fault, but refused", STATE, () -> define(lab, "axiom a"));
        check.is("the text had no fault", -1, lab::faultPosition);
    }

    private void removeAxiom() {
        check.about("Throws IndexOutOfBoundsException if there is no such axiom");
        ContextualGrammarLab lab = new ContextualGrammarLab();
        outOfBounds("removeAxiom of none", 0, BOUNDS, axiom -> done(() -> lab.removeAxiom(axiom)));
        String[] axioms = {"a", "b", "c", "ab", "bc", "ca"};
        for (String axiom : axioms) {
            define(lab, "axiom " + axiom);
        }
        outOfBounds("removeAxiom of six", 6, BOUNDS, axiom -> done(() -> lab.removeAxiom(axiom)));
        check.is("six are left", 6, () -> lab.count(0));
        check.about("Deletes an axiom. The numbers of all later axioms decrease by 1.");
        lab.removeAxiom(5);
        check.is("without the last", "a b c ab bc", () -> axioms(lab));
        lab.removeAxiom(0);
        check.is("without the first", "b c ab bc", () -> axioms(lab));
        lab.removeAxiom(2);
        check.is("without one between", "b c bc", () -> axioms(lab));
        check.is("the language", "b c bc", () -> words(lab));
        outOfBounds("removeAxiom of three", 3, BOUNDS, axiom -> done(() -> lab.removeAxiom(axiom)));
        lab.removeAxiom(1);
        lab.removeAxiom(0);
        lab.removeAxiom(0);
        check.is("none", "", () -> axioms(lab));
        check.refuses("no more", BOUNDS, () -> lab.removeAxiom(0));
        check.is("numbered from 0 again", 0, () -> define(lab, "axiom ca"));
        ContextualGrammarLab made = labOf("axiom a", "axiom aa", "context a, *");
        check.is("an axiom has no insertions", "0", () -> derivation(made, "aa"));
        made.removeAxiom(1);
        check.is("a removed axiom that is made, too", "1 000", () -> derivation(made, "aa"));
    }

    private static Object done(Runnable action) {
        action.run();
        return "done";
    }

    private static String axioms(ContextualGrammarLab lab) {
        StringBuilder axioms = new StringBuilder();
        for (int i = 0; i < lab.count(0); i++) {
            lab.takeAxiom(i);
            axioms.append(i == 0 ? "" : " ").append(word(lab));
        }
        return axioms.toString();
    }

    private void removeContext() {
        check.about("Throws IndexOutOfBoundsException if there is no such context");
        ContextualGrammarLab lab = labOf("axiom a", "mode external");
        outOfBounds("removeContext of none", 0, BOUNDS, context -> done(() -> lab.removeContext(context)));
        for (String left : new String[] {"a", "b", "c", "ab", "ac"}) {
            define(lab, "context " + left + ", *");
        }
        outOfBounds("removeContext of five", 5, BOUNDS, context -> done(() -> lab.removeContext(context)));
        check.is("five are left", "0a 1b 2c 3ab 4ac", () -> results(lab, ""));
        check.about("Deletes a context. The numbers of all later contexts decrease by 1.");
        lab.removeContext(4);
        check.is("without the last", "0a 1b 2c 3ab", () -> results(lab, ""));
        lab.removeContext(0);
        check.is("without the first", "0b 1c 2ab", () -> results(lab, ""));
        lab.removeContext(1);
        check.is("without one between", "0b 1ab", () -> results(lab, ""));
        outOfBounds("removeContext of two", 2, BOUNDS, context -> done(() -> lab.removeContext(context)));
        lab.removeContext(0);
        lab.removeContext(0);
        check.is("none", "", () -> results(lab, ""));
        check.refuses("no more", BOUNDS, () -> lab.removeContext(0));
        check.is("numbered from 0 again", 0, () -> define(lab, "context b, *"));
    }

    private void count() {
        check.about("Throws IllegalArgumentException if what is not from 0 to 4");
        bounded("count", 5, ARGUMENT, new ContextualGrammarLab()::count);
    }

    private void languages() {
        size();
        sizeOf();
        density();
    }

    private void size() {
        check.about("Throws UnsupportedOperationException if the language is too large");
        check.is("no axioms", 0, labOf("context a, *")::size);
        check.is("one word", 1, labOf("axiom a", "limit 1", "context a, *")::size);
        ContextualGrammarLab lab = full();
        check.is("300 words", 300, lab::size);
        define(lab, "context bb,ac a=1&#=1");
        check.refuses("301 words", LARGE, lab::size);
        lab.removeAxiom(5);
        check.is("300 words without one axiom", 300, lab::size);
    }

    private void sizeOf() {
        check.about("Throws IllegalArgumentException if length is negative or above the limit");
        ContextualGrammarLab lab = labOf("axiom a", "axiom b", "context c, #=0", "mode left");
        bounded("sizeOf with limit 6", 7, ARGUMENT, lab::sizeOf);
        define(lab, "limit 1");
        bounded("sizeOf with limit 1", 2, ARGUMENT, lab::sizeOf);
        define(lab, "limit 9");
        bounded("sizeOf with limit 9", 10, ARGUMENT, lab::sizeOf);
        check.is("length 0", 0, () -> lab.sizeOf(0));
        check.is("length 1", 2, () -> lab.sizeOf(1));
        check.is("length 9", 2, () -> lab.sizeOf(9));
        ContextualGrammarLab full = full();
        int[] due = {0, 2, 7, 22, 67, 202};
        for (int i = 0; i < due.length; i++) {
            int length = i;
            check.is("length " + i + " of 300 words", due[i], () -> full.sizeOf(length));
        }
    }

    private void density() {
        check.about("divided by the number of all words of this length (3 to the power of the length)");
        ContextualGrammarLab lab = labOf("axiom a", "axiom b", "axiom c", "context c, #=0", "mode left");
        bounded("density with limit 6", 7, ARGUMENT, lab::density);
        define(lab, "limit 9");
        bounded("density with limit 9", 10, ARGUMENT, lab::density);
        check.is("of the empty word alone", 0.0, () -> lab.density(0));
        check.is("of all words", 1.0, () -> lab.density(1));
        double words = 3.0;
        for (int i = 1; i <= 9; i++) {
            int length = i;
            double due = 3.0 / words;
            check.is("length " + i, due, () -> lab.density(length));
            words *= 3.0;
        }
        check.is("none of 9 letters", 0.0, () -> labOf("limit 9", "axiom a").density(9));
    }

    private void contexts() {
        isUsed();
        isRedundant();
        minimalContexts();
        canFollow();
        shortestLoop();
        isConfluent();
    }

    private void isUsed() {
        check.about("whether an insertion of this context is possible in some word of the language");
        ContextualGrammarLab lab = labOf("limit 3", "axiom a", "context b, #=1", "context aa,a *", "context c, ^c", "context b, #=2", "context aaa,aaa *");
        bounded("isUsed", 5, BOUNDS, lab::isUsed);
        check.is("used", true, () -> lab.isUsed(0));
        check.is("its results are too long", false, () -> lab.isUsed(1));
        check.is("no factor fulfils its selector", false, () -> lab.isUsed(2));
        check.is("only in a word that is made", true, () -> lab.isUsed(3));
        define(lab, "limit 4");
        check.is("its results fit", true, () -> lab.isUsed(1));
        define(lab, "limit 1");
        check.is("no room for it", false, () -> lab.isUsed(0));
        lab.removeAxiom(0);
        define(lab, "limit 9");
        check.is("no words", false, () -> lab.isUsed(0));
        check.refuses("no contexts", BOUNDS, () -> new ContextualGrammarLab().isUsed(0));
    }

    private void isRedundant() {
        check.about("whether the language stays the same if the context is deleted");
        ContextualGrammarLab lab = labOf("limit 2", "mode external", "axiom a", "axiom ba", "context b, *", "context c, *", "context aa, *", "context c, a=1", "context aaa,aaa *");
        bounded("isRedundant", 5, BOUNDS, lab::isRedundant);
        check.is("it makes an axiom alone", true, () -> lab.isRedundant(0));
        check.is("another makes the same", true, () -> lab.isRedundant(1));
        check.is("it makes nothing", true, () -> lab.isRedundant(2));
        check.is("the contexts stay", 5, () -> lab.count(1));
        lab.removeContext(1);
        check.is("nothing else makes the same", false, () -> lab.isRedundant(2));
        lab.removeAxiom(0);
        check.is("without the word that it changes", true, () -> lab.isRedundant(2));
        check.refuses("no contexts", BOUNDS, () -> new ContextualGrammarLab().isRedundant(0));
    }

    private void minimalContexts() {
        check.about("Among several sets of the same size, it is the one with the smallest bit mask.");
        check.is("no contexts", 0, new ContextualGrammarLab()::minimalContexts);
        check.is("no words", 0, labOf("context a, *")::minimalContexts);
        check.is("none of five", 0, labOf("limit 1", "axiom a", "context a, *", "context b, *", "context c, *", "context a, *", "context a, *")::minimalContexts);
        check.is("three of five", 7, labOf("limit 2", "mode external", "axiom a", "context a, *", "context b, *", "context c, *", "context a, *", "context a, *")::minimalContexts);
        check.is("all five", 31, labOf("limit 3", "mode external", "axiom a", "context a, #=1", "context b, #=1", "context c, #=1", "context a, #=2", "context b, #=2")::minimalContexts);
        check.is("the first of five", 1, labOf("limit 2", "axiom a", "context b, *", "context b, *", "context b, *", "context b, *", "context b, *")::minimalContexts);
        check.is("the fewest, not the first", 4, labOf("mode external", "axiom a", "limit 3", "context b, #=1", "context b, #=2", "context b, *")::minimalContexts);
        check.is("two of the same size", 3, labOf("limit 2", "mode external", "axiom a", "context b, *", "context c, *", "context b, *", "context c, *")::minimalContexts);
    }

    private void canFollow() {
        check.about("Throws IndexOutOfBoundsException if one of both contexts does not exist");
        ContextualGrammarLab lab = labOf("axiom a", "context a, #=0", "context a, #=0");
        bounded("canFollow, first", 2, BOUNDS, first -> lab.canFollow(first, 0));
        bounded("canFollow, second", 2, BOUNDS, second -> lab.canFollow(1, second));
        outOfBounds("canFollow, both", 2, BOUNDS, both -> lab.canFollow(both, both));
        check.refuses("no contexts", BOUNDS, () -> new ContextualGrammarLab().canFollow(0, 0));
        check.about("Returns whether a context can follow another one. Both may be the same.");
        check.is("itself", true, () -> lab.canFollow(1, 1));
        define(lab, "limit 3");
        check.is("two insertions fit", true, () -> lab.canFollow(1, 1));
        define(lab, "limit 2");
        check.is("one insertion fits", false, () -> lab.canFollow(1, 1));
    }

    private void shortestLoop() {
        check.about("Throws NoSuchElementException if there is no loop through the context");
        check.refuses("no contexts", BOUNDS, () -> new ContextualGrammarLab().shortestLoop(0));
        ContextualGrammarLab lab = labOf("axiom a", "limit 3", "context b, *", "context c, #=9");
        check.is("a loop", 1, () -> lab.shortestLoop(0));
        check.refuses("a context that is not used", MISSING, () -> lab.shortestLoop(1));
        outOfBounds("shortestLoop", 2, BOUNDS, lab::shortestLoop);
        define(lab, "limit 2");
        check.refuses("no context twice", MISSING, () -> lab.shortestLoop(0));
        define(lab, "limit 3");
        lab.removeAxiom(0);
        check.refuses("no words", MISSING, () -> lab.shortestLoop(0));
    }

    private void isConfluent() {
        check.about("Returns whether every word of the language has exactly one normal form.");
        check.is("no words", true, labOf("context a, *")::isConfluent);
        ContextualGrammarLab lab = labOf("mode external", "limit 3", "axiom abc", "context ab, *", "context a,c *");
        check.is("one word with two forms", false, lab::isConfluent);
        define(lab, "limit 2");
        check.is("it is above the limit", true, lab::isConfluent);
        define(lab, "limit 3");
        check.is("again", false, lab::isConfluent);
        lab.removeAxiom(0);
        check.is("two forms outside the language", true, lab::isConfluent);
        define(lab, "axiom c");
        check.is("two forms of a word that is made", false, lab::isConfluent);
        lab.removeContext(1);
        check.is("without the second context", true, lab::isConfluent);
        check.is("300 words", true, full()::isConfluent);
        check.is("the empty word and another", false, labOf("mode external", "axiom ab", "context ab, #=0", "context a, ^b")::isConfluent);
        check.is("eight reductions or one", false, labOf("mode external", "limit 8", "axiom bbaaaaaa", "context a, *", "context b, a>5", "context b,a #=6")::isConfluent);
        check.is("eight reductions", true, labOf("mode external", "limit 8", "axiom bbaaaaaa", "context a, *", "context b, a>5")::isConfluent);
        check.is("several ways to one of two forms", false, labOf("mode external", "limit 3", "axiom acb", "context c, *", "context c, *", "context a, *", "context a,b *")::isConfluent);
    }

    private void words() {
        clearWord();
        addLetter();
        takeAxiom();
        takeWord();
        letterAt();
        isGenerated();
        rank();
    }

    private void clearWord() {
        check.about("Replaces the current word by the empty word.");
        ContextualGrammarLab lab = new ContextualGrammarLab();
        check.does("the empty word", lab::clearWord);
        check.is("still empty", 0, lab::wordLength);
        take(lab, "abcabcabc");
        check.does("nine letters", lab::clearWord);
        check.is("empty", 0, lab::wordLength);
        check.refuses("no letter", BOUNDS, () -> lab.letterAt(0));
    }

    private void addLetter() {
        check.about("Throws IllegalStateException if the current word has 9 letters");
        for (char c = 'a'; c <= 'c'; c++) {
            char letter = c;
            ContextualGrammarLab lab = labOf("limit 1");
            for (int i = 1; i <= 9; i++) {
                check.does("letter " + i, () -> lab.addLetter(letter));
                check.is("length", i, lab::wordLength);
            }
            check.refuses("letter 10", STATE, () -> lab.addLetter(letter));
            check.is("nine letters", String.valueOf(c).repeat(9), () -> word(lab));
        }
    }

    private void takeAxiom() {
        check.about("Replaces the current word by an axiom.");
        check.refuses("no axioms", BOUNDS, () -> new ContextualGrammarLab().takeAxiom(0));
        ContextualGrammarLab lab = labOf("axiom cccccccc", "axiom b", "axiom a", "axiom c", "axiom ab", "axiom ba", "limit 1");
        bounded("takeAxiom", 6, BOUNDS, axiom -> done(() -> lab.takeAxiom(axiom)));
        check.is("by its number, not by its order", "cccccccc b a c ab ba", () -> axioms(lab));
        outOfBounds("takeAxiom", 6, BOUNDS, axiom -> done(() -> lab.takeAxiom(axiom)));
        check.is("the word stays", "ba", () -> word(lab));
    }

    private void takeWord() {
        check.about("Throws IndexOutOfBoundsException if the language has no word with this number");
        check.refuses("no words", BOUNDS, () -> labOf("context a, *").takeWord(0));
        ContextualGrammarLab lab = labOf("axiom abc", "axiom b", "axiom ac");
        bounded("takeWord", 3, BOUNDS, index -> done(() -> lab.takeWord(index)));
        check.is("the word stays", "abc", () -> word(lab));
        ContextualGrammarLab full = full();
        check.does("takeWord 299", () -> full.takeWord(299));
        outOfBounds("takeWord", 300, BOUNDS, index -> done(() -> full.takeWord(index)));
    }

    private void letterAt() {
        check.about("Throws IndexOutOfBoundsException if there is no such position");
        ContextualGrammarLab lab = new ContextualGrammarLab();
        outOfBounds("letterAt in the empty word", 0, BOUNDS, lab::letterAt);
        String word = "cabbcacba";
        for (int length = 1; length <= 9; length++) {
            take(lab, word.substring(0, length));
            bounded("letterAt with " + length + " letters", length, BOUNDS, lab::letterAt);
            check.is("the letters", word.substring(0, length), () -> word(lab));
        }
    }

    private void isGenerated() {
        check.about("Returns whether the current word belongs to the language.");
        ContextualGrammarLab lab = labOf("mode external", "axiom ab", "axiom cccc", "context a,b *", "limit 4");
        String[] words = {"", "ab", "aabb", "aaabbb", "abab", "cccc", "ccccccccc"};
        boolean[] due = {false, true, true, false, false, true, false};
        for (int i = 0; i < words.length; i++) {
            take(lab, words[i]);
            check.is("word " + words[i], due[i], lab::isGenerated);
        }
    }

    private void rank() {
        check.about("Throws NoSuchElementException if the current word does not belong to the language");
        ContextualGrammarLab lab = labOf("axiom b", "axiom cccccccc", "axiom aa");
        check.refuses("the empty word", MISSING, lab::rank);
        take(lab, "b");
        check.is("the first", 0, lab::rank);
        take(lab, "aa");
        check.is("the last", 1, lab::rank);
        take(lab, "a");
        check.refuses("before the first", MISSING, lab::rank);
        lab.takeAxiom(1);
        check.refuses("an axiom above the limit", MISSING, lab::rank);
        define(lab, "limit 8");
        check.is("an axiom of 8 letters", 2, lab::rank);
        take(lab, "ccccccccc");
        check.refuses("nine letters", MISSING, lab::rank);
    }

    private void derivations() {
        derivationLength();
        derivationStep();
        numberOfDerivations();
        insertions();
        insert();
    }

    private void derivationLength() {
        check.about("Returns the number of insertions of the best derivation of the current word.");
        ContextualGrammarLab lab = labOf("axiom a", "context a, *", "limit 9");
        for (int i = 1; i <= 9; i++) {
            lab.addLetter('a');
            check.is(i + " letters", i - 1, lab::derivationLength);
        }
        lab.clearWord();
        check.refuses("the empty word", MISSING, lab::derivationLength);
        take(lab, "b");
        check.refuses("another word", MISSING, lab::derivationLength);
    }

    private void derivationStep() {
        check.about("Throws IndexOutOfBoundsException if there is no such insertion");
        ContextualGrammarLab lab = labOf("axiom b", "context a, #=1", "context c,c #=3", "limit 9");
        take(lab, "ccbbcc");
        check.refuses("ccbbcc is not generated", MISSING, () -> lab.derivationStep(0, 0));
        take(lab, "b");
        outOfBounds("step of an axiom", 0, BOUNDS, step -> lab.derivationStep(step, 0));
        take(lab, "caabc");
        check.is("caabc", "3 001 001 103", () -> derivation(lab, "caabc"));
        bounded("step for the context", 3, BOUNDS, step -> lab.derivationStep(step, 0));
        bounded("step for s", 3, BOUNDS, step -> lab.derivationStep(step, 1));
        bounded("step for e", 3, BOUNDS, step -> lab.derivationStep(step, 2));
        check.about("Throws IllegalArgumentException if part is not from 0 to 2");
        bounded("part of the first step", 3, ARGUMENT, part -> lab.derivationStep(0, part));
        bounded("part of the last step", 3, ARGUMENT, part -> lab.derivationStep(2, part));
    }

    private void numberOfDerivations() {
        check.about("Returns the number, 0 if the word does not belong to the language.");
        ContextualGrammarLab lab = labOf("limit 9", "axiom a", "context a, *", "context a, *", "context a, *", "context a, *", "context a, *");
        check.is("the empty word", 0L, lab::derivations);
        long due = 1;
        for (int letters = 1; letters <= 9; letters++) {
            lab.addLetter('a');
            check.is(letters + " letters", due, lab::derivations);
            due *= 5L * (letters + 1) * (letters + 2) / 2;
        }
        check.is("far above the ints", true, () -> lab.derivations() > 1L << 40);
        take(lab, "b");
        check.is("another word", 0L, lab::derivations);
        define(lab, "limit 1");
        take(lab, "aa");
        check.is("above the limit", 0L, lab::derivations);
    }

    private void insertions() {
        check.about("Returns the number of insertions that are possible in the current word.");
        ContextualGrammarLab lab = labOf("limit 9", "context a, *", "context a, *", "context a, *", "context a, *", "context a, *");
        check.is("five in the empty word", 5, lab::insertions);
        take(lab, "aaaaaaaa");
        check.is("5 times 45 in 8 letters", 225, lab::insertions);
        take(lab, "aaaaaaaaa");
        check.is("none in 9 letters", 0, lab::insertions);
        check.is("no contexts", 0, new ContextualGrammarLab()::insertions);
    }

    private void insert() {
        check.about("the index of the insertion among the possible ones in their order, counted from 0");
        ContextualGrammarLab none = new ContextualGrammarLab();
        outOfBounds("insert without contexts", 0, BOUNDS, none::insert);
        ContextualGrammarLab lab = labOf("limit 9", "context a, *", "context b, *", "context c, *", "context a, *", "context b, *");
        take(lab, "cccccccc");
        outOfBounds("insert", 225, BOUNDS, lab::insert);
        check.is("the word stays", "cccccccc", () -> word(lab));
        check.is("insert 0", 0, () -> lab.insert(0));
        check.is("before all", "acccccccc", () -> word(lab));
        outOfBounds("insert in 9 letters", 0, BOUNDS, lab::insert);
        take(lab, "cccccccc");
        check.is("insert 44", 0, () -> lab.insert(44));
        check.is("behind all", "cccccccca", () -> word(lab));
        take(lab, "cccccccc");
        check.is("insert 45", 1, () -> lab.insert(45));
        check.is("before all again", "bcccccccc", () -> word(lab));
        take(lab, "cccccccc");
        check.is("insert 224", 4, () -> lab.insert(224));
        check.is("behind all again", "ccccccccb", () -> word(lab));
    }

    private void reductions() {
        numberOfReductions();
        reduce();
        normalForms();
        normalize();
    }

    private void numberOfReductions() {
        check.about("Returns the number of reductions of the current word.");
        ContextualGrammarLab lab = labOf("limit 9", "context a, *", "context a, *", "context a, *", "context a, *", "context a, *");
        check.is("the empty word", 0, lab::reductions);
        take(lab, "aaaaaaaaa");
        check.is("5 times 45 of 9 letters", 225, lab::reductions);
        define(lab, "limit 8");
        check.is("above the limit", 0, lab::reductions);
        check.is("no contexts", "", () -> reduced(new ContextualGrammarLab(), "abc"));
    }

    private void reduce() {
        check.about("the index of the reduction in the order of reductions, counted from 0");
        ContextualGrammarLab none = new ContextualGrammarLab();
        outOfBounds("reduce the empty word", 0, BOUNDS, none::reduce);
        ContextualGrammarLab lab = labOf("limit 9", "context a, *", "context aaa,aaa *", "context a, *", "context aa, *", "context a, *");
        take(lab, "aaaaaaaaa");
        check.is("reductions", 45 * 3 + 10 + 36, lab::reductions);
        outOfBounds("reduce", 181, BOUNDS, lab::reduce);
        check.is("the word stays", "aaaaaaaaa", () -> word(lab));
        int[] indices = {0, 9, 10, 45, 46, 90, 91, 135, 136, 180};
        int[] contexts = {1, 1, 3, 3, 0, 0, 2, 2, 4, 4};
        int[] lengths = {3, 3, 7, 7, 8, 8, 8, 8, 8, 8};
        for (int i = 0; i < indices.length; i++) {
            int index = indices[i];
            take(lab, "aaaaaaaaa");
            check.is("reduce " + index, contexts[i], () -> lab.reduce(index));
            check.is("letters after reduce " + index, lengths[i], lab::wordLength);
        }
    }

    private void normalForms() {
        check.about("Returns the number of normal forms of the current word.");
        check.is("the empty word", 1, new ContextualGrammarLab()::normalForms);
        ContextualGrammarLab lab = labOf("limit 9", "context a, *", "context b, *", "context c, *");
        take(lab, "abcabcabc");
        check.is("nine letters with one form", 1, lab::normalForms);
        define(lab, "limit 8");
        check.is("above the limit", 1, lab::normalForms);
        check.is("it is its own", "abcabcabc", () -> forms(lab, "abcabcabc"));
        ContextualGrammarLab many = labOf("limit 9", "context ab, #=0", "context bc, #=0");
        take(many, "abcabcabc");
        check.is("each abc leaves a or c", 8, many::normalForms);
        check.is("their order", "aaa aac aca acc caa cac cca ccc", () -> forms(many, "abcabcabc"));
    }

    private void normalize() {
        check.about("Throws IndexOutOfBoundsException if there is no such normal form");
        ContextualGrammarLab lab = labOf("mode external", "context ab, *", "context a,c *");
        take(lab, "abc");
        outOfBounds("normalize", 2, BOUNDS, index -> done(() -> lab.normalize(index)));
        check.is("the word stays", "abc", () -> word(lab));
        check.is("the forms", "b c", () -> forms(lab, "abc"));
        outOfBounds("normalize a normal form", 1, BOUNDS, index -> done(() -> lab.normalize(index)));
        check.does("a normal form stays", () -> lab.normalize(0));
        check.is("c", "c", () -> word(lab));
        lab.clearWord();
        outOfBounds("normalize the empty word", 1, BOUNDS, index -> done(() -> lab.normalize(index)));
        check.does("the empty word stays", () -> lab.normalize(0));
        check.is("empty", 0, lab::wordLength);
    }

    private void arrays() {
        allocate();
        store();
        narrowing();
        element();
        compareSizes();
        compareSizesStops();
    }

    private void allocate() {
        check.about("Throws IllegalArgumentException if type or length is out of range");
        ContextualGrammarLab lab = new ContextualGrammarLab();
        bounded("slot", 3, BOUNDS, slot -> done(() -> lab.allocate(slot, 0, 0)));
        bounded("type", 3, ARGUMENT, type -> done(() -> lab.allocate(0, type, 20)));
        bounded("length", 21, ARGUMENT, length -> done(() -> lab.allocate(0, 2, length)));
        check.about("Replaces the contents of a slot by a new array of zeros.");
        for (int i = 0; i < 20; i++) {
            lab.store(0, i, -1);
        }
        check.does("the same slot, type and length", () -> lab.allocate(0, 2, 20));
        for (int i = 0; i < 20; i++) {
            int index = i;
            check.is("zero", 0, () -> lab.element(0, index));
            lab.store(0, i, -1);
        }
        lab.allocate(0, 2, 1);
        check.refuses("the new length", BOUNDS, () -> lab.element(0, 1));
        lab.allocate(0, 2, 20);
        check.is("zero behind a shorter array", 0, () -> lab.element(0, 19));
    }

    private void store() {
        check.about("Throws IndexOutOfBoundsException if the index is outside the array");
        for (int i = 0; i <= 20; i++) {
            int length = i;
            ContextualGrammarLab lab = new ContextualGrammarLab();
            lab.allocate(1, 2, length);
            bounded("store in an array of " + i, length, BOUNDS, index -> done(() -> lab.store(1, index, index + 1)));
            for (int k = 0; k < length; k++) {
                int index = k;
                check.is("element " + k + " of " + i, k + 1, () -> lab.element(1, index));
            }
        }
        ContextualGrammarLab lab = new ContextualGrammarLab();
        outOfBounds("slot", 3, BOUNDS, slot -> done(() -> lab.store(slot, 0, 0)));
        check.refuses("an empty slot", STATE, () -> lab.store(0, 0, 0));
    }

    private void narrowing() {
        check.about("The value is narrowed to the type of the array, as by a Java cast.");
        int[] values = {0, 1, -1, 127, 128, 129, -128, -129, 255, 256, -256, 32767, 32768, -32768, -32769, 65535, 65536,
            65537, Integer.MAX_VALUE, Integer.MIN_VALUE, 0x7FFFFF80, 0x12348000};
        ContextualGrammarLab lab = new ContextualGrammarLab();
        lab.allocate(0, 0, 1);
        lab.allocate(1, 1, 1);
        lab.allocate(2, 2, 1);
        for (int value : values) {
            for (int slot = 0; slot < 3; slot++) {
                lab.store(slot, 0, value);
            }
            check.is("byte of " + value, (byte) value, () -> lab.element(0, 0));
            check.is("short of " + value, (short) value, () -> lab.element(1, 0));
            check.is("int of " + value, value, () -> lab.element(2, 0));
        }
    }

    private void element() {
        check.about("Throws IndexOutOfBoundsException if the index is outside the array");
        for (int i = 0; i <= 20; i++) {
            ContextualGrammarLab lab = new ContextualGrammarLab();
            lab.allocate(1, i % 3, i);
            bounded("element of an array of " + i, i, BOUNDS, index -> lab.element(1, index));
        }
        ContextualGrammarLab lab = new ContextualGrammarLab();
        outOfBounds("slot", 3, BOUNDS, slot -> lab.element(slot, 0));
        check.refuses("an empty slot", STATE, () -> lab.element(2, 0));
    }

    /** One word of each length from 1 to 9. */
    private static ContextualGrammarLab ladder() {
        return labOf("mode external", "axiom b", "context a, *");
    }

    private void compareSizes() {
        check.about("Returns the first length with a difference, or -1 if there is none.");
        ContextualGrammarLab lab = ladder();
        lab.allocate(2, 2, 10);
        for (int i = 1; i < 10; i++) {
            lab.store(2, i, 1);
        }
        for (int limit = 1; limit <= 9; limit++) {
            define(lab, "limit " + limit);
            check.is("none up to " + limit, -1, () -> lab.compareSizes(2));
            for (int i = 0; i <= 9; i++) {
                int length = i;
                lab.store(2, i, -1);
                check.is("a difference at " + i, length <= lab.count(3) ? length : -1, () -> lab.compareSizes(2));
                lab.store(2, i, i == 0 ? 0 : 1);
            }
        }
        outOfBounds("slot", 3, BOUNDS, lab::compareSizes);
    }

    private void compareSizesStops() {
        check.about("Throws IndexOutOfBoundsException if an element that has to be compared does not exist");
        ContextualGrammarLab lab = ladder();
        lab.allocate(0, 2, 0);
        check.refuses("no element 0", BOUNDS, () -> lab.compareSizes(0));
        lab.allocate(0, 2, 1);
        check.refuses("no element 1", BOUNDS, () -> lab.compareSizes(0));
        lab.store(0, 0, 5);
        check.is("it stops at 0", 0, () -> lab.compareSizes(0));
        lab.allocate(0, 2, 6);
        check.is("it stops at 1", 1, () -> lab.compareSizes(0));
        for (int i = 1; i < 6; i++) {
            lab.store(0, i, 1);
        }
        check.refuses("no element 6", BOUNDS, () -> lab.compareSizes(0));
        define(lab, "limit 5");
        check.is("none is needed", -1, () -> lab.compareSizes(0));
        lab.store(0, 5, 2);
        check.is("it stops at the last", 5, () -> lab.compareSizes(0));
        lab.allocate(0, 2, 20);
        check.is("more than are needed", 1, () -> lab.compareSizes(0));
        check.about("Throws IllegalArgumentException if the array is not an array of ints");
        lab.allocate(0, 0, 20);
        check.refuses("bytes", ARGUMENT, () -> lab.compareSizes(0));
        lab.allocate(0, 1, 20);
        check.refuses("shorts", ARGUMENT, () -> lab.compareSizes(0));
    }

    private void snapshot() {
        save();
        restore();
        restoreKeepsTheRest();
    }

    private void save() {
        check.about("Saves the grammar and the current word, in place of an earlier snapshot.");
        ContextualGrammarLab lab = labOf("axiom a");
        take(lab, "a");
        check.does("save", lab::save);
        define(lab, "axiom b");
        define(lab, "context c, *");
        define(lab, "mode external");
        define(lab, "limit 2");
        take(lab, "b");
        check.does("save again", lab::save);
        lab.removeAxiom(0);
        lab.removeContext(0);
        define(lab, "mode left");
        define(lab, "limit 9");
        lab.clearWord();
        check.does("restore", lab::restore);
        check.is("the word", "b", () -> word(lab));
        check.is("mode", 0, () -> lab.count(2));
        check.is("limit", 2, () -> lab.count(3));
        check.is("the words", "a b ca cb", () -> words(lab));
    }

    private void restore() {
        check.about("Restores the grammar and the current word from the snapshot, which is kept.");
        ContextualGrammarLab lab = new ContextualGrammarLab();
        check.refuses("there is no snapshot", STATE, lab::restore);
        lab.save();
        for (int i = 0; i < 3; i++) {
            define(lab, "axiom abc");
            define(lab, "context a, *");
            define(lab, "mode minimal");
            define(lab, "limit 1");
            lab.takeAxiom(0);
            check.does("restore " + i, lab::restore);
            check.is("no axioms", 0, () -> lab.count(0));
            check.is("no contexts", 0, () -> lab.count(1));
            check.is("mode internal", 1, () -> lab.count(2));
            check.is("limit 6", 6, () -> lab.count(3));
            check.is("the empty word", 0, lab::wordLength);
            check.is("no words", 0, lab::size);
        }
        ContextualGrammarLab full = full();
        full.takeWord(299);
        full.save();
        define(full, "limit 9");
        full.clearWord();
        check.refuses("too large", LARGE, full::size);
        full.restore();
        check.is("300 words", 300, full::size);
        check.is("the last word", 299, full::rank);
    }

    private void restoreKeepsTheRest() {
        check.about("Restores the grammar and the current word");
        ContextualGrammarLab lab = new ContextualGrammarLab();
        type(lab, "axiom");
        lab.allocate(0, 2, 1);
        lab.save();
        lab.append(' ');
        lab.append('a');
        lab.store(0, 0, 9);
        lab.restore();
        check.is("the buffer stays", 7, () -> lab.count(4));
        check.is("the array stays", 9, () -> lab.element(0, 0));
        check.is("the text is read", 0, lab::define);
        check.refuses("a fault", ARGUMENT, () -> define(lab, "limit"));
        lab.restore();
        check.is("the fault position stays", 5, lab::faultPosition);
        check.is("the axiom is gone", 0, () -> lab.count(0));
    }
}
