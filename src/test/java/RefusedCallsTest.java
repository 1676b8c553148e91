import java.util.StringJoiner;
import java.util.function.Consumer;
import java.util.function.Supplier;

/**
 * "A call that throws an exception leaves the state unchanged, unless stated otherwise": a refused call is made on one
 * of two equal laboratories, and then the same calls have to answer the same on both.
 */
public final class RefusedCallsTest extends LabChecks {
    private static final int MOST_WORDS = 5;

    public static void main(String[] args) {
        RefusedCallsTest test = new RefusedCallsTest();
        test.check.about("A call that throws an exception leaves the state unchanged, unless stated otherwise.");
        test.numbersThatAreNotThere();
        test.newLaboratory();
        test.fullLaboratory();
        test.largeLanguage();
        test.wordOutsideTheLanguage();
        test.refusedDefinitions();
        test.check.end("RefusedCallsTest");
    }

    private void unchanged(String what, String exception, Supplier<ContextualGrammarLab> start, Consumer<ContextualGrammarLab> refused) {
        ContextualGrammarLab lab = start.get();
        String due = observed(start.get());
        check.refuses(what, exception, () -> refused.accept(lab));
        check.is("the calls after " + what, due, () -> observed(lab));
    }

    /** Asks for all that can be seen of a state; the calls that change it come last. */
    private static String observed(ContextualGrammarLab lab) {
        StringJoiner seen = new StringJoiner(" ");
        seen.add(word(lab)).add(Check.answer(lab::faultPosition)).add(grammar(lab)).add(arrays(lab)).add(aboutWord(lab));
        seen.add(Check.answer(lab::size)).add(axioms(lab)).add(firstWords(lab));
        seen.add("text:").add(Check.answer(lab::define)).add(Check.answer(lab::faultPosition)).add(grammar(lab));
        seen.add("snapshot:").add(Check.answer(Check.done(lab::restore))).add(word(lab)).add(grammar(lab)).add(Check.answer(lab::size));
        return seen.toString();
    }

    private static String grammar(ContextualGrammarLab lab) {
        StringBuilder seen = new StringBuilder();
        for (int what = 0; what < 5; what++) {
            seen.append(lab.count(what)).append(',');
        }
        for (int i = 0; i < lab.count(1); i++) {
            int context = i;
            seen.append(Check.answer(() -> lab.isUsed(context))).append(',');
        }
        return seen.toString();
    }

    private static String arrays(ContextualGrammarLab lab) {
        StringBuilder seen = new StringBuilder();
        for (int i = 0; i < 3; i++) {
            int slot = i;
            for (int k = 0; k < 4; k++) {
                int index = k;
                seen.append(Check.answer(() -> lab.element(slot, index))).append(',');
            }
            seen.append(Check.answer(() -> lab.element(slot, 19))).append(',');
            seen.append(Check.answer(() -> lab.compareSizes(slot))).append(';');
        }
        return seen.toString();
    }

    private static String aboutWord(ContextualGrammarLab lab) {
        StringJoiner seen = new StringJoiner(",");
        seen.add("" + lab.insertions()).add("" + lab.reductions()).add("" + lab.normalForms());
        seen.add(Check.answer(lab::rank)).add(Check.answer(lab::derivations)).add(Check.answer(lab::derivationLength));
        return seen.toString();
    }

    private static String axioms(ContextualGrammarLab lab) {
        StringJoiner seen = new StringJoiner(",");
        for (int i = 0; i < lab.count(0); i++) {
            lab.takeAxiom(i);
            seen.add(word(lab));
        }
        return seen.toString();
    }

    private static String firstWords(ContextualGrammarLab lab) {
        StringJoiner seen = new StringJoiner(",");
        for (int i = 0; i < MOST_WORDS; i++) {
            int index = i;
            seen.add(Check.answer(Check.done(() -> lab.takeWord(index)))).add(word(lab));
        }
        return seen.toString();
    }

    /** Nothing in it is empty: axioms, contexts, a text, a fault, a word of the language, arrays and a snapshot. */
    private static ContextualGrammarLab filled() {
        ContextualGrammarLab lab = labOf("axiom b", "axiom a", "context c, ^a", "context b,a #=1", "mode external", "limit 4");
        take(lab, "ca");
        lab.save();
        define(lab, "mode left");
        lab.allocate(0, 0, 2);
        lab.store(0, 1, 100);
        lab.allocate(2, 2, 5);
        lab.store(2, 1, 2);
        take(lab, "bba");
        try {
            define(lab, "axiom abx");
        } catch (IllegalArgumentException e) {
            type(lab, "limit 3");
        }
        return lab;
    }

    private void numbersThatAreNotThere() {
        for (int n : new int[] {-1, Integer.MAX_VALUE, Integer.MIN_VALUE}) {
            refusedNumbers(n, n, n, n);
        }
        refusedNumbers(2, 2, 3, 5);
    }

    private void refusedNumbers(int axiom, int context, int slot, int index) {
        unchanged("removeAxiom", BOUNDS, RefusedCallsTest::filled, lab -> lab.removeAxiom(axiom));
        unchanged("takeAxiom", BOUNDS, RefusedCallsTest::filled, lab -> lab.takeAxiom(axiom));
        unchanged("removeContext", BOUNDS, RefusedCallsTest::filled, lab -> lab.removeContext(context));
        unchanged("isUsed", BOUNDS, RefusedCallsTest::filled, lab -> lab.isUsed(context));
        unchanged("isRedundant", BOUNDS, RefusedCallsTest::filled, lab -> lab.isRedundant(context));
        unchanged("canFollow, first", BOUNDS, RefusedCallsTest::filled, lab -> lab.canFollow(context, 0));
        unchanged("canFollow, second", BOUNDS, RefusedCallsTest::filled, lab -> lab.canFollow(0, context));
        unchanged("shortestLoop", BOUNDS, RefusedCallsTest::filled, lab -> lab.shortestLoop(context));
        unchanged("count", ARGUMENT, RefusedCallsTest::filled, lab -> lab.count(index));
        unchanged("sizeOf", ARGUMENT, RefusedCallsTest::filled, lab -> lab.sizeOf(index));
        unchanged("density", ARGUMENT, RefusedCallsTest::filled, lab -> lab.density(index));
        unchanged("letterAt", BOUNDS, RefusedCallsTest::filled, lab -> lab.letterAt(index));
        unchanged("takeWord", BOUNDS, RefusedCallsTest::filled, lab -> lab.takeWord(index < 0 ? index : index + 20));
        unchanged("derivationStep, step", BOUNDS, RefusedCallsTest::filled, lab -> lab.derivationStep(index, 0));
        unchanged("derivationStep, part", ARGUMENT, RefusedCallsTest::filled, lab -> lab.derivationStep(0, slot));
        unchanged("insert", BOUNDS, RefusedCallsTest::filled, lab -> lab.insert(index));
        unchanged("reduce", BOUNDS, RefusedCallsTest::filled, lab -> lab.reduce(index));
        unchanged("normalize", BOUNDS, RefusedCallsTest::filled, lab -> lab.normalize(index));
        unchanged("allocate, slot", BOUNDS, RefusedCallsTest::filled, lab -> lab.allocate(slot, 0, 3));
        unchanged("allocate, type", ARGUMENT, RefusedCallsTest::filled, lab -> lab.allocate(0, slot, 3));
        unchanged("allocate, length", ARGUMENT, RefusedCallsTest::filled, lab -> lab.allocate(0, 0, index < 0 ? index : 21));
        unchanged("store, slot", BOUNDS, RefusedCallsTest::filled, lab -> lab.store(slot, 0, 9));
        unchanged("store, index", BOUNDS, RefusedCallsTest::filled, lab -> lab.store(0, index, 9));
        unchanged("store, empty", STATE, RefusedCallsTest::filled, lab -> lab.store(1, index, 9));
        unchanged("element, slot", BOUNDS, RefusedCallsTest::filled, lab -> lab.element(slot, 0));
        unchanged("element, index", BOUNDS, RefusedCallsTest::filled, lab -> lab.element(2, index));
        unchanged("element, empty", STATE, RefusedCallsTest::filled, lab -> lab.element(1, index));
        unchanged("compareSizes, slot", BOUNDS, RefusedCallsTest::filled, lab -> lab.compareSizes(slot));
        unchanged("compareSizes, empty", STATE, RefusedCallsTest::filled, lab -> lab.compareSizes(1));
        unchanged("compareSizes, bytes", ARGUMENT, RefusedCallsTest::filled, lab -> lab.compareSizes(0));
    }

    private void newLaboratory() {
        Supplier<ContextualGrammarLab> start = ContextualGrammarLab::new;
        unchanged("restore of a new one", STATE, start, ContextualGrammarLab::restore);
        unchanged("rank of a new one", MISSING, start, ContextualGrammarLab::rank);
        unchanged("derivationLength of a new one", MISSING, start, ContextualGrammarLab::derivationLength);
        unchanged("takeWord of a new one", BOUNDS, start, lab -> lab.takeWord(0));
        unchanged("takeAxiom of a new one", BOUNDS, start, lab -> lab.takeAxiom(0));
        unchanged("letter of a new one", ARGUMENT, start, lab -> lab.addLetter('d'));
        unchanged("letterAt of a new one", BOUNDS, start, lab -> lab.letterAt(0));
        unchanged("normalize of a new one", BOUNDS, start, lab -> lab.normalize(1));
    }

    /** All that has a bound has reached it. */
    private static ContextualGrammarLab brimful() {
        ContextualGrammarLab lab = labOf("axiom a", "axiom b", "axiom c", "axiom aa", "axiom bb", "axiom cc", "limit 2",
                "context a, *", "context a, *", "context b, *", "context b, *", "context c, *");
        take(lab, "abcabcabc");
        lab.save();
        type(lab, "context a, " + "x".repeat(49));
        return lab;
    }

    private void fullLaboratory() {
        unchanged("a 61st character", STATE, RefusedCallsTest::brimful, lab -> lab.append('a'));
        unchanged("a tenth letter", STATE, RefusedCallsTest::brimful, lab -> lab.addLetter('a'));
        unchanged("no letter", ARGUMENT, RefusedCallsTest::brimful, lab -> lab.addLetter('d'));
        unchanged("an axiom too many", BOUNDS, RefusedCallsTest::brimful, lab -> lab.removeAxiom(6));
        unchanged("a context too many", BOUNDS, RefusedCallsTest::brimful, lab -> lab.removeContext(5));
        unchanged("an insertion into 9 letters", BOUNDS, RefusedCallsTest::brimful, lab -> lab.insert(0));
    }

    private static ContextualGrammarLab tooLarge() {
        ContextualGrammarLab lab = large();
        lab.save();
        take(lab, "ba");
        type(lab, "limit 2");
        lab.allocate(0, 2, 3);
        return lab;
    }

    private void largeLanguage() {
        unchanged("size", LARGE, RefusedCallsTest::tooLarge, ContextualGrammarLab::size);
        unchanged("sizeOf", LARGE, RefusedCallsTest::tooLarge, lab -> lab.sizeOf(1));
        unchanged("density", LARGE, RefusedCallsTest::tooLarge, lab -> lab.density(1));
        unchanged("isUsed", LARGE, RefusedCallsTest::tooLarge, lab -> lab.isUsed(0));
        unchanged("isRedundant", LARGE, RefusedCallsTest::tooLarge, lab -> lab.isRedundant(0));
        unchanged("minimalContexts", LARGE, RefusedCallsTest::tooLarge, ContextualGrammarLab::minimalContexts);
        unchanged("canFollow", LARGE, RefusedCallsTest::tooLarge, lab -> lab.canFollow(0, 1));
        unchanged("shortestLoop", LARGE, RefusedCallsTest::tooLarge, lab -> lab.shortestLoop(0));
        unchanged("isConfluent", LARGE, RefusedCallsTest::tooLarge, ContextualGrammarLab::isConfluent);
        unchanged("takeWord", LARGE, RefusedCallsTest::tooLarge, lab -> lab.takeWord(0));
        unchanged("isGenerated", LARGE, RefusedCallsTest::tooLarge, ContextualGrammarLab::isGenerated);
        unchanged("rank", LARGE, RefusedCallsTest::tooLarge, ContextualGrammarLab::rank);
        unchanged("derivationLength", LARGE, RefusedCallsTest::tooLarge, ContextualGrammarLab::derivationLength);
        unchanged("derivationStep", LARGE, RefusedCallsTest::tooLarge, lab -> lab.derivationStep(0, 0));
        unchanged("derivations", LARGE, RefusedCallsTest::tooLarge, ContextualGrammarLab::derivations);
        unchanged("compareSizes", LARGE, RefusedCallsTest::tooLarge, lab -> lab.compareSizes(0));
    }

    /** Here an array of ints is too short for a comparison, too. */
    private static ContextualGrammarLab outside() {
        ContextualGrammarLab lab = filled();
        take(lab, "ccc");
        lab.allocate(2, 2, 1);
        return lab;
    }

    private void wordOutsideTheLanguage() {
        unchanged("rank", MISSING, RefusedCallsTest::outside, ContextualGrammarLab::rank);
        unchanged("derivationLength", MISSING, RefusedCallsTest::outside, ContextualGrammarLab::derivationLength);
        unchanged("derivationStep", MISSING, RefusedCallsTest::outside, lab -> lab.derivationStep(0, 0));
        unchanged("shortestLoop", MISSING, () -> labOf("axiom a", "context b, *", "limit 2"), lab -> lab.shortestLoop(0));
        unchanged("compareSizes", BOUNDS, RefusedCallsTest::outside, lab -> lab.compareSizes(2));
    }

    /** Here the document states otherwise: define empties the buffer, so a definition without effect does so before. */
    private void refusedDefinitions() {
        refusedDefinition("axiom a", STATE);
        refusedDefinition("axiom ab", STATE);
        refusedDefinition("context c, *", STATE);
        refusedDefinition("axiom ad", ARGUMENT);
        refusedDefinition("axiom abcabcabc", ARGUMENT);
        refusedDefinition("context a,b *|", ARGUMENT);
        refusedDefinition("mode lefty", ARGUMENT);
        refusedDefinition("limit 10", ARGUMENT);
        refusedDefinition("limit 0", ARGUMENT);
        refusedDefinition("", ARGUMENT);
    }

    private void refusedDefinition(String text, String exception) {
        ContextualGrammarLab lab = brimful();
        ContextualGrammarLab twin = brimful();
        check.refuses("the buffer's text", ARGUMENT, lab::define);
        check.refuses("the buffer's text", ARGUMENT, twin::define);
        check.refuses("define " + text, exception, () -> define(lab, text));
        define(lab, "limit 2");
        define(twin, "limit 2");
        type(lab, "mode left");
        type(twin, "mode left");
        String due = observed(twin);
        check.is("the calls after define " + text, due, () -> observed(lab));
    }
}
