/**
 * "If several conditions of a method are fulfilled, the one that is listed first determines the exception": for each
 * method that lists several exceptions, and for every two of its conditions that can hold at once, a call.
 */
public final class ExceptionOrderTest extends LabChecks {
    public static void main(String[] args) {
        ExceptionOrderTest test = new ExceptionOrderTest();
        test.check.about("If several conditions of a method are fulfilled, the one that is listed first determines the exception.");
        test.define();
        test.lengths();
        test.contexts();
        test.shortestLoop();
        test.addLetter();
        test.takeWord();
        test.rankAndDerivationLength();
        test.derivationStep();
        test.allocate();
        test.storeAndElement();
        test.compareSizes();
        test.check.end("ExceptionOrderTest");
    }

    /** Its word is in no language, for no word is empty there. */
    private static ContextualGrammarLab small() {
        return labOf("axiom ab", "context c, *", "limit 3");
    }

    /** A language of 301 words, with the current word empty. */
    private static ContextualGrammarLab justTooLarge() {
        ContextualGrammarLab lab = full();
        define(lab, "context bb,ac a=1&#=1");
        return lab;
    }

    private void define() {
        ContextualGrammarLab lab = labOf("axiom a", "axiom b", "axiom c", "axiom aa", "axiom bb", "axiom cc",
                "context a, *", "context a, *", "context a, *", "context a, *", "context a, *");
        check.refuses("a fault, six axioms", ARGUMENT, () -> define(lab, "axiom ab "));
        check.is("its place", 8, lab::faultPosition);
        check.refuses("a fault behind an axiom that is there", ARGUMENT, () -> define(lab, "axiom a,"));
        check.refuses("a fault, five contexts", ARGUMENT, () -> define(lab, "context a, "));
        check.is("its place", 11, lab::faultPosition);
        check.refuses("six axioms", STATE, () -> define(lab, "axiom ab"));
        check.refuses("six axioms and this one there", STATE, () -> define(lab, "axiom a"));
        check.refuses("five contexts", STATE, () -> define(lab, "context a, *"));
    }

    private void lengths() {
        ContextualGrammarLab lab = justTooLarge();
        for (int length : new int[] {-1, 6, Integer.MAX_VALUE, Integer.MIN_VALUE}) {
            check.refuses("sizeOf " + length, ARGUMENT, () -> lab.sizeOf(length));
            check.refuses("density " + length, ARGUMENT, () -> lab.density(length));
        }
        for (int length : new int[] {0, 1, 5}) {
            check.refuses("sizeOf " + length, LARGE, () -> lab.sizeOf(length));
            check.refuses("density " + length, LARGE, () -> lab.density(length));
        }
    }

    private void contexts() {
        ContextualGrammarLab lab = justTooLarge();
        for (int context : new int[] {-1, 4, Integer.MAX_VALUE, Integer.MIN_VALUE}) {
            check.refuses("isUsed " + context, BOUNDS, () -> lab.isUsed(context));
            check.refuses("isRedundant " + context, BOUNDS, () -> lab.isRedundant(context));
            check.refuses("canFollow " + context + ", 0", BOUNDS, () -> lab.canFollow(context, 0));
            check.refuses("canFollow 0, " + context, BOUNDS, () -> lab.canFollow(0, context));
            check.refuses("shortestLoop " + context, BOUNDS, () -> lab.shortestLoop(context));
        }
        for (int context : new int[] {0, 3}) {
            check.refuses("isUsed " + context, LARGE, () -> lab.isUsed(context));
            check.refuses("isRedundant " + context, LARGE, () -> lab.isRedundant(context));
            check.refuses("canFollow " + context + ", 0", LARGE, () -> lab.canFollow(context, 0));
            check.refuses("canFollow 0, " + context, LARGE, () -> lab.canFollow(0, context));
            check.refuses("shortestLoop " + context, LARGE, () -> lab.shortestLoop(context));
        }
    }

    private void shortestLoop() {
        ContextualGrammarLab lab = justTooLarge();
        define(lab, "context a, #=9");
        check.refuses("too large, no loop", LARGE, () -> lab.shortestLoop(4));
        lab.removeAxiom(5);
        check.refuses("no loop", MISSING, () -> lab.shortestLoop(4));
        check.refuses("no context", BOUNDS, () -> lab.shortestLoop(5));
    }

    private void addLetter() {
        ContextualGrammarLab lab = new ContextualGrammarLab();
        take(lab, "abcabcabc");
        check.refuses("no letter, nine letters", ARGUMENT, () -> lab.addLetter('d'));
        check.refuses("no letter, nine letters", ARGUMENT, () -> lab.addLetter('`'));
        check.refuses("nine letters", STATE, () -> lab.addLetter('a'));
    }

    private void takeWord() {
        ContextualGrammarLab lab = justTooLarge();
        for (int index : new int[] {-1, 0, 299, 300, 301, Integer.MAX_VALUE, Integer.MIN_VALUE}) {
            check.refuses("takeWord " + index, LARGE, () -> lab.takeWord(index));
        }
        lab.removeContext(3);
        check.refuses("takeWord 300", BOUNDS, () -> lab.takeWord(300));
    }

    private void rankAndDerivationLength() {
        ContextualGrammarLab lab = justTooLarge();
        for (String word : new String[] {"", "a", "ccccccccc"}) {
            take(lab, word);
            check.refuses("rank of " + word, LARGE, lab::rank);
            check.refuses("derivationLength of " + word, LARGE, lab::derivationLength);
            check.refuses("derivations of " + word, LARGE, lab::derivations);
            check.refuses("isGenerated " + word, LARGE, lab::isGenerated);
        }
        check.refuses("rank", MISSING, () -> small().rank());
        check.refuses("derivationLength", MISSING, () -> small().derivationLength());
    }

    private void derivationStep() {
        ContextualGrammarLab large = justTooLarge();
        check.refuses("no part, too large, not generated, no step", ARGUMENT, () -> large.derivationStep(-1, 3));
        check.refuses("too large, not generated", LARGE, () -> large.derivationStep(0, 0));
        check.refuses("too large, not generated, no step", LARGE, () -> large.derivationStep(-1, 2));
        take(large, "a");
        check.refuses("no part, too large", ARGUMENT, () -> large.derivationStep(0, -1));
        check.refuses("too large, no step", LARGE, () -> large.derivationStep(0, 0));
        take(large, "aa");
        check.refuses("too large", LARGE, () -> large.derivationStep(0, 0));
        ContextualGrammarLab lab = small();
        check.refuses("no part, not generated", ARGUMENT, () -> lab.derivationStep(0, 3));
        check.refuses("not generated, no step", MISSING, () -> lab.derivationStep(-1, 0));
        check.refuses("not generated, no step", MISSING, () -> lab.derivationStep(9, 0));
        take(lab, "ab");
        check.refuses("no part, no step", ARGUMENT, () -> lab.derivationStep(0, 3));
        check.refuses("no step", BOUNDS, () -> lab.derivationStep(0, 2));
        take(lab, "cab");
        check.refuses("no part", ARGUMENT, () -> lab.derivationStep(0, -1));
        check.refuses("no step", BOUNDS, () -> lab.derivationStep(1, 0));
        check.is("all are there", 0, () -> lab.derivationStep(0, 0));
    }

    private void allocate() {
        ContextualGrammarLab lab = new ContextualGrammarLab();
        for (int slot : new int[] {-1, 3, Integer.MAX_VALUE, Integer.MIN_VALUE}) {
            check.refuses("no slot, no type", BOUNDS, () -> lab.allocate(slot, 3, 1));
            check.refuses("no slot, no length", BOUNDS, () -> lab.allocate(slot, 0, 21));
            check.refuses("no slot, a negative length", BOUNDS, () -> lab.allocate(slot, -1, -1));
        }
        check.refuses("no type, no length", ARGUMENT, () -> lab.allocate(0, 3, 21));
    }

    private void storeAndElement() {
        ContextualGrammarLab lab = new ContextualGrammarLab();
        check.refuses("store: no slot, no index", BOUNDS, () -> lab.store(3, 20, 0));
        check.refuses("element: no slot, no index", BOUNDS, () -> lab.element(-1, -1));
        for (int index : new int[] {-1, 0, 20, Integer.MAX_VALUE, Integer.MIN_VALUE}) {
            check.refuses("store: an empty slot, index " + index, STATE, () -> lab.store(2, index, 0));
            check.refuses("element: an empty slot, index " + index, STATE, () -> lab.element(2, index));
        }
        lab.allocate(2, 0, 0);
        check.refuses("store: no index", BOUNDS, () -> lab.store(2, 0, 0));
        check.refuses("element: no index", BOUNDS, () -> lab.element(2, 0));
    }

    private void compareSizes() {
        ContextualGrammarLab large = justTooLarge();
        check.refuses("no slot, too large", BOUNDS, () -> large.compareSizes(3));
        check.refuses("no slot, too large", BOUNDS, () -> large.compareSizes(-1));
        check.refuses("too large, an empty slot", LARGE, () -> large.compareSizes(0));
        large.allocate(0, 0, 0);
        check.refuses("too large, bytes, no element", LARGE, () -> large.compareSizes(0));
        large.allocate(0, 2, 0);
        check.refuses("too large, no element", LARGE, () -> large.compareSizes(0));
        large.removeContext(3);
        check.refuses("an empty slot", STATE, () -> large.compareSizes(1));
        large.allocate(0, 0, 0);
        check.refuses("bytes, no element", ARGUMENT, () -> large.compareSizes(0));
        large.allocate(0, 1, 1);
        check.refuses("shorts, no element", ARGUMENT, () -> large.compareSizes(0));
        large.allocate(0, 2, 1);
        check.refuses("no element", BOUNDS, () -> large.compareSizes(0));
        large.allocate(0, 2, 2);
        check.is("a difference comes before an element that is missing", 1, () -> large.compareSizes(0));
    }
}
