/** A method for each promise of the document: ordinary inputs, the named edges and wrong inputs. */
public final class PromisesTest extends LabChecks {
    public static void main(String[] args) {
        PromisesTest test = new PromisesTest();
        test.definitions();
        test.languages();
        test.words();
        test.derivations();
        test.modes();
        test.reductions();
        test.arraysAndSnapshot();
        test.examples();
        test.exampleOfTheReadme();
        test.callsAfterExceptions();
        test.check.end("PromisesTest");
    }

    private void definitions() {
        promise1();
        promise2();
        promise3();
        promise3Selectors();
        promise4();
        promise5();
        promise6();
        promise7();
    }

    private void languages() {
        promise8();
        promise9();
        promise10();
        promise11();
        promise12();
        promise13();
        promise14And15();
        promise16();
    }

    private void words() {
        promise17And18();
        promise19();
        promise20();
        promise21And22();
        promise23And24();
    }

    private void derivations() {
        promise25And26();
        promise27();
    }

    private void reductions() {
        promise30And31();
        promise32And33();
    }

    private void arraysAndSnapshot() {
        promise34To36();
        promise37();
        promise38And39();
    }

    private void promise1() {
        ContextualGrammarLab lab = new ContextualGrammarLab();
        check.is("new: axioms", 0, () -> lab.count(0));
        check.is("new: contexts", 0, () -> lab.count(1));
        check.is("new: mode", 1, () -> lab.count(2));
        check.is("new: limit", 6, () -> lab.count(3));
        check.is("new: buffer", 0, () -> lab.count(4));
        check.is("new: word", 0, lab::wordLength);
        check.is("new: size", 0, lab::size);
        check.is("new: confluent", true, lab::isConfluent);
        check.is("new: minimal", 0, lab::minimalContexts);
        check.is("new: fault", -1, lab::faultPosition);
    }

    private void promise2() {
        ContextualGrammarLab lab = new ContextualGrammarLab();
        for (int i = 0; i < 60; i++) {
            int number = i;
            check.does("append " + number, () -> lab.append((char) (number * 1000)));
            check.is("buffer", number + 1, () -> lab.count(4));
        }
        check.refuses("append 61st", STATE, () -> lab.append('a'));
        check.is("buffer stays", 60, () -> lab.count(4));
        check.refuses("define", ARGUMENT, lab::define);
        check.does("append again", () -> lab.append('a'));
    }

    private void promise3() {
        ContextualGrammarLab lab = new ContextualGrammarLab();
        check.is("mode external", 1, () -> define(lab, "mode external"));
        check.is("mode internal", 0, () -> define(lab, "mode internal"));
        check.is("mode maximal", 1, () -> define(lab, "mode maximal"));
        check.is("mode minimal", 2, () -> define(lab, "mode minimal"));
        check.is("mode left", 3, () -> define(lab, "mode left"));
        check.is("mode is left", 4, () -> lab.count(2));
        check.is("limit 9", 6, () -> define(lab, "limit 9"));
        check.is("limit 1", 9, () -> define(lab, "limit 1"));
        check.is("limit is 1", 1, () -> lab.count(3));
        String[] axioms = {"a", "ab", "abc", "abcabcab", "b", "c"};
        for (int i = 0; i < axioms.length; i++) {
            int number = i;
            check.is("axiom " + axioms[i], number, () -> define(lab, "axiom " + axioms[number]));
            check.refuses("axiom again", STATE, () -> define(lab, "axiom " + axioms[number]));
        }
        check.refuses("a seventh axiom", STATE, () -> define(lab, "axiom cc"));
        check.is("axioms", 6, () -> lab.count(0));
        check.is("the buffer is empty", 0, () -> lab.count(4));
        for (int i = 0; i < 5; i++) {
            int number = i;
            check.is("context", number, () -> define(lab, "context abc,abc *"));
        }
        check.refuses("a sixth context", STATE, () -> define(lab, "context a, *"));
        check.is("the text had no fault", -1, lab::faultPosition);
        check.refuses("a fault comes first", ARGUMENT, () -> define(lab, "context a, "));
        check.is("contexts", 5, () -> lab.count(1));
        check.is("the buffer is empty again", 0, () -> lab.count(4));
    }

    private void selector(String selector, String word, boolean due) {
        ContextualGrammarLab lab = labOf("mode external", "limit 9", "context a, " + selector);
        take(lab, word);
        check.is(selector + " of " + word, due ? 1 : 0, lab::insertions);
    }

    private void promise3Selectors() {
        selector("*", "", true);
        selector("#=0", "", true);
        selector("#=8", "abcabcab", true);
        selector("#<0", "", false);
        selector("#>7", "abcabcab", true);
        selector("a=3", "abcabcab", true);
        selector("b<3", "abcabcab", false);
        selector("c>1", "abcabcab", true);
        selector("c>2", "abcabcab", false);
        selector("^ab", "abc", true);
        selector("^ab", "a", false);
        selector("^b", "abc", false);
        selector("^abc", "abc", true);
        selector("$bc", "abc", true);
        selector("$ab", "abc", false);
        selector("$bca", "ca", false);
        selector("$a", "", false);
        selector("~bcb", "abcba", true);
        selector("~cb", "abcba", true);
        selector("~a", "bcbca", true);
        selector("~aa", "abacaba", false);
        selector("~a", "", false);
        selector("~abc", "bca", false);
        selector("a=1|b=1&c=1", "a", true);
        selector("(a=1|b=1)&c=1", "a", false);
        selector("c=1&b=1|a=1", "a", true);
        selector("!a=1&b=1", "", false);
        selector("!(a=1&b=1)", "", true);
        selector("!!*", "", true);
        selector("!!!*", "", false);
        selector("((((((a=1))))))", "a", true);
        selector("!(!(!(a=1)))", "a", false);
        selector("a=0|a=1|a=2", "aa", true);
        selector("a=0|a=1|a=2", "aaa", false);
        selector("a>0&b>0&c>0", "abc", true);
        selector("a>0&b>0&c>0", "aab", false);
    }

    private void fault(String text, int position) {
        ContextualGrammarLab lab = new ContextualGrammarLab();
        check.refuses("define " + text, ARGUMENT, () -> define(lab, text));
        check.is("fault of " + text, position, lab::faultPosition);
        check.is("contexts after " + text, 0, () -> lab.count(0) + lab.count(1) + lab.count(4));
    }

    private void noFault(String text) {
        ContextualGrammarLab lab = new ContextualGrammarLab();
        check.is("define " + text, 0, () -> define(lab, text));
        check.is("fault of " + text, -1, lab::faultPosition);
    }

    private void promise4() {
        fault("", 0);
        fault("x", 0);
        fault("aa", 1);
        fault("axiom", 5);
        fault("axioma", 5);
        fault("axiom ", 6);
        fault("axiom  a", 6);
        fault("axiom ad", 7);
        fault("axiom a ", 7);
        fault("axiom A", 6);
        fault("axiom abcabcabc", 14);
        fault("contextual", 7);
        fault("context ,a *", 8);
        fault("context abca, *", 11);
        fault("context a *", 9);
        fault("context a", 9);
        fault("context a,*", 10);
        fault("context a,abca *", 13);
        fault("context a,  *", 11);
        fault("context a, ", 11);
        fault("context a, d", 11);
        fault("context a, * ", 12);
        fault("context a, *a", 12);
        fault("context a, a", 12);
        fault("context a, a!", 12);
        fault("context a, #<", 13);
        fault("context a, a<a", 13);
        fault("context a, a<10", 14);
        fault("context a, ^", 12);
        fault("context a, ^abca", 15);
        fault("context a, $a<1", 13);
        fault("context a, ~1", 12);
        fault("context a, (*", 13);
        fault("context a, ()", 12);
        fault("context a, *)", 12);
        fault("context a, (*))", 14);
        fault("context a, *&", 13);
        fault("context a, *&|", 13);
        fault("context a, *|&*", 13);
        fault("context a, !", 12);
        fault("context a, !&", 12);
        fault("context a, !!!!!!!*", 17);
        fault("context a, (((((((*)))))))", 17);
        fault("context a, !(!(!(!*)))", 17);
        fault("context a, *|*|*|*|*|*|*|*|*|*|*|*|*|*|*|*|*|*|*|*|*|*|*|*|^", 60);
        fault("mode ", 5);
        fault("mode x", 5);
        fault("mode maximum", 10);
        fault("mode m", 6);
        fault("mode mo", 6);
        fault("mode left ", 9);
        fault("mode lef", 8);
        fault("limit ", 6);
        fault("limit 0", 6);
        fault("limit 10", 7);
        fault("limit\u0000", 5);
        fault("context a, \uffff", 11);
        noFault("axiom abcabcab");
        noFault("context abc,abc !!!!!!*&!!!!!!*");
        noFault("context a, !(!(!(*)))|((((((^abc))))))&!$a");
        noFault("context a,b #>9&c=0|(~ab)");
        ContextualGrammarLab lab = labOf("axiom a");
        check.refuses("again", STATE, () -> define(lab, "axiom a"));
        check.is("no fault", -1, lab::faultPosition);
        check.refuses("faulty", ARGUMENT, () -> define(lab, "axiom"));
        type(lab, "limit 5");
        check.is("the latest define counts", 5, lab::faultPosition);
        lab.define();
        check.is("no fault again", -1, lab::faultPosition);
    }

    private void promise5() {
        ContextualGrammarLab lab = labOf("axiom c", "axiom b", "axiom a");
        check.refuses("removeAxiom(-1)", BOUNDS, () -> lab.removeAxiom(-1));
        check.refuses("removeAxiom(3)", BOUNDS, () -> lab.removeAxiom(3));
        check.is("size", 3, lab::size);
        check.does("removeAxiom(0)", () -> lab.removeAxiom(0));
        check.is("size", 2, lab::size);
        lab.takeAxiom(0);
        check.is("axiom 0", "b", () -> word(lab));
        lab.takeAxiom(1);
        check.is("axiom 1", "a", () -> word(lab));
        check.refuses("takeAxiom(2)", BOUNDS, () -> lab.takeAxiom(2));
        check.is("c again", 2, () -> define(lab, "axiom c"));
        check.does("removeAxiom(2)", () -> lab.removeAxiom(2));
        check.is("axioms", 2, () -> lab.count(0));
        check.does("removeAxiom(1)", () -> lab.removeAxiom(1));
        lab.takeAxiom(0);
        check.is("an earlier axiom stays", "b", () -> word(lab));
        ContextualGrammarLab both = labOf("axiom a", "axiom aa", "context a, *");
        both.removeAxiom(1);
        take(both, "aa");
        check.is("aa is no axiom any more", 3L, both::derivations);
    }

    private void promise6() {
        ContextualGrammarLab lab = labOf("axiom a", "mode external", "limit 2", "context a, *", "context b, *", "context c, *");
        check.refuses("removeContext(-1)", BOUNDS, () -> lab.removeContext(-1));
        check.refuses("removeContext(3)", BOUNDS, () -> lab.removeContext(3));
        check.is("size", 4, lab::size);
        check.does("removeContext(0)", () -> lab.removeContext(0));
        check.is("size", 3, lab::size);
        take(lab, "ba");
        check.is("ba by context 0", 0, () -> lab.derivationStep(0, 0));
        take(lab, "ca");
        check.is("ca by context 1", 1, () -> lab.derivationStep(0, 0));
        check.is("contexts", 2, () -> lab.count(1));
        check.is("the next number", 2, () -> define(lab, "context a, *"));
        take(lab, "aa");
        check.is("aa by context 2", 2, () -> lab.derivationStep(0, 0));
    }

    private void promise7() {
        ContextualGrammarLab lab = labOf("axiom a", "axiom b", "context a,b *", "mode left", "limit 3");
        type(lab, "axio");
        int[] due = {2, 1, 4, 3, 4};
        for (int i = 0; i < due.length; i++) {
            int what = i;
            check.is("count(" + i + ")", due[i], () -> lab.count(what));
        }
        check.refuses("count(-1)", ARGUMENT, () -> lab.count(-1));
        check.refuses("count(5)", ARGUMENT, () -> lab.count(5));
    }

    private void promise8() {
        check.is("size of ab", 3, () -> labOf("mode external", "axiom ab", "context a,b *").size());
        check.is("a long axiom", 1, () -> labOf("limit 2", "axiom abc", "axiom ab").size());
        check.is("an axiom made twice", 2, () -> labOf("limit 2", "axiom a", "axiom aa", "context a, *").size());
        ContextualGrammarLab lab = labOf("limit 5", "mode external", "context a, *", "context b, *", "context c, *", "axiom a", "axiom b", "axiom cc", "axiom bbc", "axiom abac", "axiom aaaac");
        check.is("300 words", 300, lab::size);
        define(lab, "context bb,ac a=1&#=1");
        check.refuses("301 words", LARGE, lab::size);
        lab.removeContext(3);
        check.is("300 words again", 300, lab::size);
        check.refuses("too large", LARGE, () -> large().size());
    }

    private void promise9() {
        ContextualGrammarLab lab = labOf("mode external", "axiom ab", "axiom b", "context a,b *", "limit 5");
        int[] due = {0, 1, 1, 1, 1, 1};
        for (int i = 0; i < due.length; i++) {
            int length = i;
            check.is("sizeOf(" + i + ")", due[i], () -> lab.sizeOf(length));
        }
        check.refuses("sizeOf(-1)", ARGUMENT, () -> lab.sizeOf(-1));
        check.refuses("sizeOf(6)", ARGUMENT, () -> lab.sizeOf(6));
        check.refuses("argument first", ARGUMENT, () -> large().sizeOf(9));
        check.refuses("too large", LARGE, () -> large().sizeOf(8));
    }

    private void promise10() {
        ContextualGrammarLab lab = labOf("axiom a", "axiom b", "context a, *", "limit 3");
        check.is("density(0)", 0.0, () -> lab.density(0));
        check.is("density(1)", 2.0 / 3.0, () -> lab.density(1));
        check.is("density(2)", 3.0 / 9.0, () -> lab.density(2));
        check.is("density(3)", 4.0 / 27.0, () -> lab.density(3));
        check.refuses("density(4)", ARGUMENT, () -> lab.density(4));
        check.refuses("density(-1)", ARGUMENT, () -> lab.density(-1));
        check.is("density(9)", 1.0 / 19683.0, () -> labOf("axiom aaa", "context aaa, *", "limit 9").density(9));
        check.refuses("argument first", ARGUMENT, () -> large().density(9));
        check.refuses("too large", LARGE, () -> large().density(0));
    }

    private void promise11() {
        ContextualGrammarLab lab = labOf("axiom a", "limit 2", "context b, *", "context c, #=3", "context aa, *");
        check.is("isUsed(0)", true, () -> lab.isUsed(0));
        check.is("isUsed(1)", false, () -> lab.isUsed(1));
        check.is("isUsed(2)", false, () -> lab.isUsed(2));
        define(lab, "limit 3");
        check.is("isUsed(2) with more letters", true, () -> lab.isUsed(2));
        check.refuses("isUsed(3)", BOUNDS, () -> lab.isUsed(3));
        check.refuses("isUsed(-1)", BOUNDS, () -> lab.isUsed(-1));
        check.refuses("bounds first", BOUNDS, () -> large().isUsed(3));
        check.refuses("too large", LARGE, () -> large().isUsed(2));
    }

    private void promise12() {
        ContextualGrammarLab lab = labOf("axiom a", "limit 3", "context b, *", "context b, *", "context c, *", "context ab, #=9");
        check.is("isRedundant(0)", true, () -> lab.isRedundant(0));
        check.is("isRedundant(1)", true, () -> lab.isRedundant(1));
        check.is("isRedundant(2)", false, () -> lab.isRedundant(2));
        check.is("isRedundant(3)", true, () -> lab.isRedundant(3));
        check.is("contexts stay", 4, () -> lab.count(1));
        lab.removeContext(0);
        check.is("not any more", false, () -> lab.isRedundant(0));
        check.refuses("isRedundant(3)", BOUNDS, () -> lab.isRedundant(3));
        check.refuses("isRedundant(-1)", BOUNDS, () -> lab.isRedundant(-1));
        check.refuses("bounds first", BOUNDS, () -> large().isRedundant(3));
        check.refuses("too large", LARGE, () -> large().isRedundant(0));
    }

    private void promise13() {
        check.is("the smallest mask", 1, () -> labOf("axiom a", "context b, *", "context b, *").minimalContexts());
        ContextualGrammarLab lab = labOf("mode external", "axiom a", "limit 3", "context b, #=1", "context b, #=2", "context b, *");
        check.is("the fewest contexts", 4, lab::minimalContexts);
        lab.removeContext(2);
        check.is("both", 3, lab::minimalContexts);
        define(lab, "limit 2");
        check.is("only the first", 1, lab::minimalContexts);
        define(lab, "limit 1");
        check.is("none", 0, lab::minimalContexts);
        check.refuses("too large", LARGE, () -> large().minimalContexts());
    }

    private void promise14And15() {
        ContextualGrammarLab lab = labOf("mode external", "axiom a", "limit 5", "context b, #=1", "context c, ^b", "context b, ^c");
        boolean[][] due = {{false, true, false}, {false, false, true}, {false, true, false}};
        for (int i = 0; i < 3; i++) {
            for (int j = 0; j < 3; j++) {
                int first = i;
                int second = j;
                check.is("canFollow(" + i + ", " + j + ")", due[i][j], () -> lab.canFollow(first, second));
            }
        }
        check.refuses("shortestLoop(0)", MISSING, () -> lab.shortestLoop(0));
        check.is("shortestLoop(1)", 2, () -> lab.shortestLoop(1));
        check.is("shortestLoop(2)", 2, () -> lab.shortestLoop(2));
        define(lab, "limit 4");
        check.is("y has no z", false, () -> lab.canFollow(2, 1));
        check.refuses("no loop", MISSING, () -> lab.shortestLoop(1));
        check.refuses("canFollow(0, 3)", BOUNDS, () -> lab.canFollow(0, 3));
        check.refuses("canFollow(-1, 0)", BOUNDS, () -> lab.canFollow(-1, 0));
        check.refuses("shortestLoop(3)", BOUNDS, () -> lab.shortestLoop(3));
        check.refuses("shortestLoop(-1)", BOUNDS, () -> lab.shortestLoop(-1));
        check.refuses("bounds first", BOUNDS, () -> large().canFollow(2, 3));
        check.refuses("too large", LARGE, () -> large().canFollow(0, 0));
        check.refuses("bounds first", BOUNDS, () -> large().shortestLoop(3));
        check.refuses("too large", LARGE, () -> large().shortestLoop(0));
        ContextualGrammarLab one = labOf("axiom a", "limit 3", "context a, *");
        check.is("itself", true, () -> one.canFollow(0, 0));
        check.is("loop of itself", 1, () -> one.shortestLoop(0));
        define(one, "limit 2");
        check.is("not twice", false, () -> one.canFollow(0, 0));
        ContextualGrammarLab ring = labOf("mode external", "limit 8", "axiom a", "context a, ^a", "context b, ^a", "context c, ^b", "context a, ^c");
        ring.removeContext(0);
        check.is("a ring of three", 3, () -> ring.shortestLoop(0));
        ContextualGrammarLab five = labOf("mode external", "limit 8", "axiom aa", "context b, ^aa", "context b, ^ba", "context c, ^bb", "context a, ^cb", "context a, ^ac");
        for (int i = 0; i < 5; i++) {
            int context = i;
            check.is("a ring of five", 5, () -> five.shortestLoop(context));
        }
        define(five, "limit 7");
        check.refuses("an open ring", MISSING, () -> five.shortestLoop(0));
    }

    private void promise16() {
        check.is("one form", true, () -> labOf("mode external", "axiom ab", "context a,b *").isConfluent());
        ContextualGrammarLab lab = labOf("mode external", "axiom abc", "context ab, *", "context a,c *");
        check.is("two forms", false, lab::isConfluent);
        lab.removeContext(0);
        check.is("one form again", true, lab::isConfluent);
        check.is("b and the empty word", false, () -> labOf("mode external", "axiom ab", "context ab, #=0", "context a, ^b").isConfluent());
        check.is("an unused axiom", true, () -> labOf("mode external", "limit 2", "axiom abc", "context ab, *", "context a,c *").isConfluent());
        check.refuses("too large", LARGE, () -> large().isConfluent());
    }

    private void promise17And18() {
        ContextualGrammarLab lab = labOf("limit 1");
        for (int i = 0; i < 9; i++) {
            char letter = (char) ('a' + i % 3);
            check.does("addLetter", () -> lab.addLetter(letter));
        }
        check.is("nine letters", "abcabcabc", () -> word(lab));
        check.refuses("a tenth", STATE, () -> lab.addLetter('a'));
        check.refuses("argument first", ARGUMENT, () -> lab.addLetter('d'));
        check.refuses("before a", ARGUMENT, () -> lab.addLetter('`'));
        check.refuses("a large one", ARGUMENT, () -> lab.addLetter('\uffff'));
        check.is("still nine", "abcabcabc", () -> word(lab));
        check.does("clearWord", lab::clearWord);
        check.is("empty", "", () -> word(lab));
        check.does("addLetter", () -> lab.addLetter('c'));
        check.is("c", "c", () -> word(lab));
    }

    private void promise19() {
        ContextualGrammarLab lab = labOf("limit 2", "axiom cabcabca", "axiom b");
        check.does("takeAxiom(0)", () -> lab.takeAxiom(0));
        check.is("longer than the limit", "cabcabca", () -> word(lab));
        check.refuses("takeAxiom(2)", BOUNDS, () -> lab.takeAxiom(2));
        check.refuses("takeAxiom(-1)", BOUNDS, () -> lab.takeAxiom(-1));
        check.is("unchanged", "cabcabca", () -> word(lab));
        check.does("takeAxiom(1)", () -> lab.takeAxiom(1));
        check.is("b", "b", () -> word(lab));
    }

    private void promise20() {
        ContextualGrammarLab lab = labOf("limit 2", "axiom b", "axiom a", "context a, *", "context b, *");
        String[] due = {"a", "b", "aa", "ab", "ba", "bb"};
        for (int i = 0; i < due.length; i++) {
            int index = i;
            check.does("takeWord(" + i + ")", () -> lab.takeWord(index));
            check.is("word " + i, due[i], () -> word(lab));
            check.is("rank of " + due[i], i, lab::rank);
        }
        check.refuses("takeWord(6)", BOUNDS, () -> lab.takeWord(6));
        check.refuses("takeWord(-1)", BOUNDS, () -> lab.takeWord(-1));
        check.is("unchanged", "bb", () -> word(lab));
        check.refuses("too large first", LARGE, () -> large().takeWord(-1));
        check.refuses("too large", LARGE, () -> large().takeWord(0));
    }

    private void promise21And22() {
        ContextualGrammarLab lab = new ContextualGrammarLab();
        check.is("wordLength", 0, lab::wordLength);
        check.refuses("letterAt(0)", BOUNDS, () -> lab.letterAt(0));
        take(lab, "cab");
        check.is("wordLength", 3, lab::wordLength);
        check.is("letterAt(0)", 'c', () -> lab.letterAt(0));
        check.is("letterAt(1)", 'a', () -> lab.letterAt(1));
        check.is("letterAt(2)", 'b', () -> lab.letterAt(2));
        check.refuses("letterAt(3)", BOUNDS, () -> lab.letterAt(3));
        check.refuses("letterAt(-1)", BOUNDS, () -> lab.letterAt(-1));
    }

    private void promise23And24() {
        ContextualGrammarLab lab = labOf("mode external", "axiom ab", "axiom cccccccc", "context a,b *", "limit 4");
        check.is("empty word", false, lab::isGenerated);
        check.refuses("rank of it", MISSING, lab::rank);
        take(lab, "ab");
        check.is("ab", true, lab::isGenerated);
        check.is("rank of ab", 0, lab::rank);
        take(lab, "aabb");
        check.is("aabb", true, lab::isGenerated);
        check.is("rank of aabb", 1, lab::rank);
        take(lab, "aaabbb");
        check.is("aaabbb", false, lab::isGenerated);
        define(lab, "limit 6");
        check.is("aaabbb with limit 6", true, lab::isGenerated);
        check.is("rank of aaabbb", 2, lab::rank);
        lab.takeAxiom(1);
        check.is("an axiom above the limit", false, lab::isGenerated);
        check.refuses("too large", LARGE, () -> large().isGenerated());
        check.refuses("too large first", LARGE, () -> large().rank());
    }

    private void step(ContextualGrammarLab lab, int step, int context, int s, int e) {
        check.is("step " + step + " context", context, () -> lab.derivationStep(step, 0));
        check.is("step " + step + " s", s, () -> lab.derivationStep(step, 1));
        check.is("step " + step + " e", e, () -> lab.derivationStep(step, 2));
    }

    private void promise25And26() {
        ContextualGrammarLab lab = labOf("limit 2", "axiom b", "axiom a", "context a, *", "context b, *");
        take(lab, "ab");
        check.is("length", 1, lab::derivationLength);
        step(lab, 0, 1, 1, 1);
        check.refuses("step 1", BOUNDS, () -> lab.derivationStep(1, 0));
        check.refuses("step -1", BOUNDS, () -> lab.derivationStep(-1, 0));
        check.refuses("part 3", ARGUMENT, () -> lab.derivationStep(5, 3));
        check.refuses("part -1", ARGUMENT, () -> lab.derivationStep(0, -1));
        take(lab, "b");
        check.is("an axiom", 0, lab::derivationLength);
        check.refuses("no step", BOUNDS, () -> lab.derivationStep(0, 2));
        take(lab, "c");
        check.refuses("length of c", MISSING, lab::derivationLength);
        check.refuses("step of c", MISSING, () -> lab.derivationStep(-1, 0));
        check.refuses("part first", ARGUMENT, () -> lab.derivationStep(-1, 3));
        ContextualGrammarLab nested = labOf("mode external", "axiom ab", "context a,b *");
        take(nested, "aaabbb");
        check.is("nested length", 2, nested::derivationLength);
        step(nested, 0, 0, 0, 2);
        step(nested, 1, 0, 0, 4);
        ContextualGrammarLab made = labOf("axiom a", "axiom aa", "limit 3", "context a, *");
        take(made, "aa");
        check.is("an axiom that is made, too", 0, made::derivationLength);
        take(made, "aaa");
        check.is("by the longer axiom", 1, made::derivationLength);
        ContextualGrammarLab quick = labOf("axiom b", "limit 5", "context a, *", "context aa, *");
        take(quick, "aaab");
        check.is("the fewest", 2, quick::derivationLength);
        step(quick, 0, 0, 0, 0);
        step(quick, 1, 1, 0, 0);
        check.refuses("too large", LARGE, () -> large().derivationLength());
        check.refuses("too large", LARGE, () -> large().derivationStep(0, 0));
        check.refuses("part before too large", ARGUMENT, () -> large().derivationStep(0, 3));
    }

    private void promise27() {
        ContextualGrammarLab lab = labOf("limit 3", "axiom a", "context a, *");
        long[] due = {0, 1, 3, 18, 0};
        for (int i = 0; i < due.length; i++) {
            check.is("derivations of " + i + " letters", due[i], lab::derivations);
            lab.addLetter('a');
        }
        define(lab, "axiom aa");
        take(lab, "aaa");
        check.is("two axioms", 24L, lab::derivations);
        define(lab, "limit 9");
        take(lab, "aaaaaaaaa");
        check.is("many", 3L * 6 * 10 * 15 * 21 * 28 * 36 * 45 + 6L * 10 * 15 * 21 * 28 * 36 * 45, lab::derivations);
        check.refuses("too large", LARGE, () -> large().derivations());
    }

    private void insertion(String mode, String selector, String... results) {
        ContextualGrammarLab lab = labOf("mode " + mode, "context c,bb " + selector, "limit 6");
        String name = mode + " " + selector;
        take(lab, "ab");
        check.is(name, results.length, lab::insertions);
        for (int i = 0; i < results.length; i++) {
            int index = i;
            take(lab, "ab");
            check.is(name + " insert(" + i + ")", 0, () -> lab.insert(index));
            check.is(name + " result " + i, results[i], () -> word(lab));
        }
        take(lab, "ab");
        check.refuses(name + " too far", BOUNDS, () -> lab.insert(results.length));
        check.refuses(name + " negative", BOUNDS, () -> lab.insert(-1));
        check.is(name + " unchanged", "ab", () -> word(lab));
    }

    /** Promises 28 and 29 in each of the modes. */
    private void modes() {
        insertion("external", "#<2");
        insertion("external", "#=2", "cabbb");
        insertion("internal", "#<2", "cbbab", "cabbb", "acbbb", "acbbb", "abcbb");
        insertion("internal", "#>0", "cabbb", "cabbb", "acbbb");
        insertion("internal", "#=2", "cabbb");
        insertion("maximal", "#<2", "cabbb", "acbbb");
        insertion("maximal", "*", "cabbb");
        insertion("maximal", "#=0", "cbbab", "acbbb", "abcbb");
        insertion("minimal", "#<2", "cbbab", "acbbb", "abcbb");
        insertion("minimal", "#>0", "cabbb", "acbbb");
        insertion("minimal", "b=1", "acbbb");
        insertion("left", "#<2", "cbbab", "cabbb");
        insertion("left", "^b", "acbbb");
        insertion("left", "$b", "cabbb");
        insertion("left", "#>2");
        ContextualGrammarLab lab = labOf("limit 3", "context a, *", "context ab, *", "context c, #=2");
        take(lab, "bb");
        check.is("the limit counts", 7, lab::insertions);
        check.is("the last", 2, () -> lab.insert(6));
        check.is("cbb", "cbb", () -> word(lab));
        check.is("no more", 0, lab::insertions);
        lab.clearWord();
        check.is("the empty word", 2, lab::insertions);
        check.is("ab", 1, () -> lab.insert(1));
        check.is("ab", "ab", () -> word(lab));
        check.is("a large language", true, () -> large().insertions() == 3);
    }

    private void promise30And31() {
        ContextualGrammarLab lab = labOf("mode external", "context ab, *", "context a,c *", "limit 6");
        take(lab, "abc");
        check.is("reductions of abc", 2, lab::reductions);
        check.refuses("reduce(2)", BOUNDS, () -> lab.reduce(2));
        check.refuses("reduce(-1)", BOUNDS, () -> lab.reduce(-1));
        check.is("reduce(0)", 1, () -> lab.reduce(0));
        check.is("b is before c", "b", () -> word(lab));
        take(lab, "abc");
        check.is("reduce(1)", 0, () -> lab.reduce(1));
        check.is("c", "c", () -> word(lab));
        check.is("none", 0, lab::reductions);
        take(lab, "abab");
        check.is("to ab", 0, () -> lab.reduce(0));
        check.is("to the empty word", 0, () -> lab.reduce(0));
        check.is("empty", "", () -> word(lab));
        ContextualGrammarLab many = labOf("context a, *", "context aa, *", "limit 3");
        take(many, "aaa");
        check.is("reductions of aaa", 9, many::reductions);
        check.is("the shorter word first", 1, () -> many.reduce(2));
        check.is("a", "a", () -> word(many));
        take(many, "aaa");
        check.is("then the longer", 0, () -> many.reduce(3));
        check.is("aa", "aa", () -> word(many));
        take(many, "aaaa");
        check.is("above the limit", 0, many::reductions);
        check.refuses("above the limit", BOUNDS, () -> many.reduce(0));
        ContextualGrammarLab minimal = labOf("mode minimal", "context b, $a");
        take(minimal, "aba");
        check.is("the factor a alone", 1, minimal::reductions);
        check.is("aa", 0, () -> minimal.reduce(0));
        check.is("aa", "aa", () -> word(minimal));
    }

    private void promise32And33() {
        ContextualGrammarLab lab = labOf("mode external", "context ab, *", "context a,c *", "limit 6");
        check.is("forms of the empty word", 1, lab::normalForms);
        take(lab, "abc");
        check.is("forms of abc", 2, lab::normalForms);
        check.refuses("normalize(2)", BOUNDS, () -> lab.normalize(2));
        check.refuses("normalize(-1)", BOUNDS, () -> lab.normalize(-1));
        check.is("unchanged", "abc", () -> word(lab));
        check.does("normalize(1)", () -> lab.normalize(1));
        check.is("c", "c", () -> word(lab));
        check.is("itself", 1, lab::normalForms);
        take(lab, "abc");
        check.does("normalize(0)", () -> lab.normalize(0));
        check.is("b", "b", () -> word(lab));
        take(lab, "abc");
        lab.removeContext(1);
        check.is("the grammar has changed", 1, lab::normalForms);
        define(lab, "limit 2");
        check.does("above the limit", () -> lab.normalize(0));
        check.is("abc", "abc", () -> word(lab));
        ContextualGrammarLab deep = labOf("context a, *", "context b, *", "context c, *", "limit 9");
        take(deep, "abcabcabc");
        check.is("all letters go", 1, deep::normalForms);
        check.does("normalize(0)", () -> deep.normalize(0));
        check.is("to the empty word", "", () -> word(deep));
    }

    private void promise34To36() {
        ContextualGrammarLab lab = new ContextualGrammarLab();
        check.refuses("store in an empty slot", STATE, () -> lab.store(0, 0, 1));
        check.refuses("element of an empty slot", STATE, () -> lab.element(2, -1));
        check.refuses("slot 3", BOUNDS, () -> lab.allocate(3, 9, 99));
        check.refuses("slot -1", BOUNDS, () -> lab.allocate(-1, 0, 0));
        check.refuses("type 3", ARGUMENT, () -> lab.allocate(0, 3, 1));
        check.refuses("type -1", ARGUMENT, () -> lab.allocate(0, -1, 1));
        check.refuses("length 21", ARGUMENT, () -> lab.allocate(0, 0, 21));
        check.refuses("length -1", ARGUMENT, () -> lab.allocate(0, 0, -1));
        check.refuses("still empty", STATE, () -> lab.element(0, 0));
        int[][] stored = {{300, 44}, {200, -56}, {-129, 127}, {128, -128}, {65536, 0}};
        narrowed(lab, 0, stored);
        narrowed(lab, 1, new int[][] {{70000, 4464}, {40000, -25536}, {-32769, 32767}, {200, 200}});
        narrowed(lab, 2, new int[][] {{70000, 70000}, {Integer.MIN_VALUE, Integer.MIN_VALUE}, {-1, -1}});
        check.does("length 0", () -> lab.allocate(1, 2, 0));
        check.refuses("store there", BOUNDS, () -> lab.store(1, 0, 0));
        check.refuses("element there", BOUNDS, () -> lab.element(1, 0));
        check.refuses("store in slot 3", BOUNDS, () -> lab.store(3, 0, 0));
        check.refuses("element of slot -1", BOUNDS, () -> lab.element(-1, 0));
        check.does("length 20", () -> lab.allocate(2, 0, 20));
        check.is("zeros", 0, () -> lab.element(2, 0));
        check.refuses("index 20", BOUNDS, () -> lab.element(2, 20));
        check.refuses("index -1", BOUNDS, () -> lab.store(2, -1, 0));
    }

    /** The slot's number is the array's type, too. */
    private void narrowed(ContextualGrammarLab lab, int type, int[][] stored) {
        check.does("allocate", () -> lab.allocate(type, type, 20));
        for (int i = 0; i < stored.length; i++) {
            int index = 19 - i;
            int[] pair = stored[i];
            check.does("store " + pair[0], () -> lab.store(type, index, pair[0]));
            check.is("element of type " + type, pair[1], () -> lab.element(type, index));
        }
        check.is("another element", 0, () -> lab.element(type, 0));
    }

    private void promise37() {
        ContextualGrammarLab lab = labOf("axiom a", "axiom b", "context a, *", "limit 3");
        check.refuses("slot 3", BOUNDS, () -> lab.compareSizes(3));
        check.refuses("slot -1", BOUNDS, () -> lab.compareSizes(-1));
        check.refuses("empty", STATE, () -> lab.compareSizes(0));
        lab.allocate(0, 1, 4);
        check.refuses("shorts", ARGUMENT, () -> lab.compareSizes(0));
        lab.allocate(0, 2, 0);
        check.refuses("no element 0", BOUNDS, () -> lab.compareSizes(0));
        lab.allocate(0, 2, 3);
        int[] sizes = {0, 2, 3};
        for (int i = 0; i < 3; i++) {
            int index = i;
            lab.store(0, index, -1);
            check.is("the first difference", index, () -> lab.compareSizes(0));
            lab.store(0, index, sizes[index]);
        }
        check.refuses("no element 3", BOUNDS, () -> lab.compareSizes(0));
        define(lab, "limit 2");
        check.is("none up to 2", -1, () -> lab.compareSizes(0));
        ContextualGrammarLab large = large();
        check.refuses("slot before too large", BOUNDS, () -> large.compareSizes(3));
        check.refuses("too large before empty", LARGE, () -> large.compareSizes(0));
        large.allocate(0, 0, 20);
        check.refuses("too large before bytes", LARGE, () -> large.compareSizes(0));
    }

    private void promise38And39() {
        ContextualGrammarLab lab = labOf("axiom a", "context b, *", "mode external", "limit 3");
        check.refuses("nothing saved", STATE, lab::restore);
        take(lab, "ba");
        check.does("save", lab::save);
        check.refuses("a fault", ARGUMENT, () -> define(lab, "axiom ax"));
        lab.removeAxiom(0);
        lab.removeContext(0);
        define(lab, "axiom ccc");
        define(lab, "context c,c #=3");
        define(lab, "context c,c #=3");
        define(lab, "mode left");
        define(lab, "limit 9");
        check.refuses("a fault", ARGUMENT, () -> define(lab, "axiom ax"));
        take(lab, "cccc");
        type(lab, "limit");
        lab.allocate(1, 2, 2);
        lab.store(1, 1, 7);
        check.is("size of the other grammar", 4, lab::size);
        for (int i = 0; i < 2; i++) {
            check.does("restore", lab::restore);
            check.is("word", "ba", () -> word(lab));
            check.is("axioms", 1, () -> lab.count(0));
            check.is("contexts", 1, () -> lab.count(1));
            check.is("mode", 0, () -> lab.count(2));
            check.is("limit", 3, () -> lab.count(3));
            check.is("the buffer stays", 5, () -> lab.count(4));
            check.is("the fault stays", 7, lab::faultPosition);
            check.is("the array stays", 7, () -> lab.element(1, 1));
            check.is("size", 3, lab::size);
            check.is("rank", 1, lab::rank);
            check.is("forms", 1, lab::normalForms);
            lab.removeAxiom(0);
            lab.clearWord();
            check.is("size without axioms", 0, lab::size);
        }
        check.does("save again", lab::save);
        check.does("restore again", lab::restore);
        check.is("in place of the earlier", 0, () -> lab.count(0));
    }

    /** The examples of the document. */
    private void examples() {
        ContextualGrammarLab axiom = new ContextualGrammarLab();
        type(axiom, "axiom ab");
        check.is("define", 0, axiom::define);
        check.is("size", 1, axiom::size);
        check.is("count(0)", 1, () -> axiom.count(0));
        ContextualGrammarLab limit = new ContextualGrammarLab();
        type(limit, "limit 4");
        check.is("define", 6, limit::define);
        check.is("count(3)", 4, () -> limit.count(3));
        check.is("insertions", 0, limit::insertions);
        check.is("isConfluent", true, limit::isConfluent);
        ContextualGrammarLab word = new ContextualGrammarLab();
        take(word, "ab");
        check.is("wordLength", 2, word::wordLength);
        check.is("letterAt(1)", 'b', () -> word.letterAt(1));
        check.refuses("letterAt(2)", BOUNDS, () -> word.letterAt(2));
        check.is("isGenerated", false, word::isGenerated);
        check.is("reductions", 0, word::reductions);
    }

    private void exampleOfTheReadme() {
        ContextualGrammarLab lab = new ContextualGrammarLab();
        check.is("readme: axiom", 0, () -> define(lab, "axiom ab"));
        check.is("readme: context", 0, () -> define(lab, "context a,b ^a&$b"));
        check.is("readme: second context", 1, () -> define(lab, "context c, #=0"));
        check.is("readme: limit", 6, () -> define(lab, "limit 4"));
        check.is("readme: size", 11, lab::size);
        check.is("readme: sizeOf(4)", 7, () -> lab.sizeOf(4));
        check.is("readme: minimalContexts", 3, lab::minimalContexts);
        check.does("readme: takeWord(5)", () -> lab.takeWord(5));
        check.is("readme: word 5", "abcc", () -> word(lab));
        check.is("readme: derivationLength", 2, lab::derivationLength);
        check.is("readme: derivations", 2, lab::derivations);
        check.is("readme: reductions", 2, lab::reductions);
        check.does("readme: normalize(0)", () -> lab.normalize(0));
        check.is("readme: the normal form", "ab", () -> word(lab));
        check.is("readme: insertions", 4, lab::insertions);
        check.is("readme: insert(0)", 0, () -> lab.insert(0));
        check.is("readme: the new word", "aabb", () -> word(lab));
    }

    /** A call that throws leaves the state as it was: numbers that no grammar has, at every method that takes one. */
    private void callsAfterExceptions() {
        ContextualGrammarLab lab = labOf("axiom a", "context a, *");
        take(lab, "aa");
        int[] numbers = {-1, 7, 100, Integer.MAX_VALUE, Integer.MIN_VALUE};
        for (int n : numbers) {
            check.refuses("removeAxiom", BOUNDS, () -> lab.removeAxiom(n));
            check.refuses("removeContext", BOUNDS, () -> lab.removeContext(n));
            check.refuses("count", ARGUMENT, () -> lab.count(n));
            check.refuses("sizeOf", ARGUMENT, () -> lab.sizeOf(n));
            check.refuses("density", ARGUMENT, () -> lab.density(n));
            check.refuses("isUsed", BOUNDS, () -> lab.isUsed(n));
            check.refuses("isRedundant", BOUNDS, () -> lab.isRedundant(n));
            check.refuses("canFollow", BOUNDS, () -> lab.canFollow(n, 0));
            check.refuses("canFollow", BOUNDS, () -> lab.canFollow(0, n));
            check.refuses("shortestLoop", BOUNDS, () -> lab.shortestLoop(n));
            check.refuses("takeAxiom", BOUNDS, () -> lab.takeAxiom(n));
            check.refuses("takeWord", BOUNDS, () -> lab.takeWord(n));
            check.refuses("letterAt", BOUNDS, () -> lab.letterAt(n));
            check.refuses("derivationStep", BOUNDS, () -> lab.derivationStep(n, 0));
            check.refuses("derivationStep", ARGUMENT, () -> lab.derivationStep(0, n));
            check.refuses("insert", BOUNDS, () -> lab.insert(n));
            check.refuses("reduce", BOUNDS, () -> lab.reduce(n));
            check.refuses("normalize", BOUNDS, () -> lab.normalize(n));
            check.refuses("allocate", BOUNDS, () -> lab.allocate(n, 0, 0));
            check.refuses("allocate", ARGUMENT, () -> lab.allocate(0, n, 0));
            check.refuses("store", BOUNDS, () -> lab.store(n, 0, 0));
            check.refuses("element", BOUNDS, () -> lab.element(n, 0));
            check.refuses("compareSizes", BOUNDS, () -> lab.compareSizes(n));
        }
        check.is("the word stays", "aa", () -> word(lab));
        check.is("the language stays", 6, lab::size);
    }
}
