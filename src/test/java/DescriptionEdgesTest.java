/** The boundary cases in the sentences of "Description", but for those of definition texts: a method for each. */
public final class DescriptionEdgesTest extends LabChecks {
    public static void main(String[] args) {
        DescriptionEdgesTest test = new DescriptionEdgesTest();
        test.words();
        test.grammar();
        test.insertion();
        test.modes();
        test.language();
        test.derivations();
        test.reduction();
        test.followRelation();
        test.currentWord();
        test.arrays();
        test.check.end("DescriptionEdgesTest");
    }

    private void words() {
        letters();
        emptyWord();
        positions();
        orderOfLengths();
        orderOfLetters();
        factors();
        lettersOfFactors();
    }

    private void letters() {
        check.about("The letters are a, b and c.");
        ContextualGrammarLab lab = new ContextualGrammarLab();
        for (char c : new char[] {'`', 'd', 'A', 'C', ' ', '\u0000', (char) ('a' + 256), '\uffff'}) {
            check.refuses("letter " + (int) c, ARGUMENT, () -> lab.addLetter(c));
        }
        check.is("no letter yet", "", () -> word(lab));
        for (char c = 'a'; c <= 'c'; c++) {
            char letter = c;
            check.does("letter " + c, () -> lab.addLetter(letter));
        }
        check.is("the letters", "abc", () -> word(lab));
    }

    private void emptyWord() {
        check.about("A word is a finite sequence of letters; the empty word is allowed.");
        ContextualGrammarLab lab = labOf("context a,b #=0", "context c, #>0");
        check.is("its insertion", "0ab", () -> results(lab, ""));
        check.is("the reduction to it", "0-", () -> reduced(lab, "ab"));
        check.is("it is a normal form", "-", () -> forms(lab, "ab"));
        check.is("its own normal form", "-", () -> forms(lab, ""));
        check.is("its reductions", "", () -> reduced(lab, ""));
        check.is("no axiom is empty", false, lab::isGenerated);
    }

    private void positions() {
        check.about("Positions in a word are counted from 0.");
        ContextualGrammarLab lab = new ContextualGrammarLab();
        take(lab, "bca");
        check.is("the first", 'b', () -> lab.letterAt(0));
        check.is("the last", 'a', () -> lab.letterAt(2));
        check.refuses("behind the last", BOUNDS, () -> lab.letterAt(3));
    }

    private void orderOfLengths() {
        check.about("Words are ordered by their lengths, the shortest first");
        check.is("order", "b c aa aaa", () -> words(labOf("axiom aaa", "axiom c", "axiom aa", "axiom b")));
    }

    private void orderOfLetters() {
        check.about("words of the same length are ordered lexicographically");
        ContextualGrammarLab lab = labOf("axiom cba", "axiom cab", "axiom acc", "axiom caa", "axiom baa", "axiom cac");
        check.is("order", "acc baa caa cab cac cba", () -> words(lab));
    }

    private void factors() {
        check.about("The factor of a word from position s to position e, where 0 <= s <= e <= length");
        ContextualGrammarLab lab = labOf("limit 9", "context c, *");
        for (int length = 0; length <= 8; length++) {
            int due = (length + 1) * (length + 2) / 2;
            check.is("factors of " + length + " letters", due, lab::insertions);
            lab.addLetter('a');
        }
        check.is("all factors of ab", "0cab 0cab 0cab 0acb 0acb 0abc", () -> results(lab, "ab"));
    }

    private void lettersOfFactors() {
        check.about("consists of the letters at the positions s to e - 1");
        ContextualGrammarLab lab = labOf("limit 9", "context c,c ^b&$a");
        check.is("ba and baa", "0acbacab 0acbaacb", () -> results(lab, "abaab"));
        check.is("ba to the end", "0cbac", () -> results(lab, "ba"));
        ContextualGrammarLab last = labOf("limit 9", "context c,c #=1");
        check.is("single letters of 7", 7, () -> {
            take(last, "abcabca");
            return last.insertions();
        });
    }

    private void grammar() {
        sixAxioms();
        differentAxioms();
        lettersOfAxioms();
        fiveContexts();
        leftPart();
        rightPart();
        modeNumbers();
        limits();
    }

    private void sixAxioms() {
        check.about("There are at most 6 axioms");
        ContextualGrammarLab lab = new ContextualGrammarLab();
        String[] axioms = {"a", "b", "c", "aa", "ab", "ac"};
        for (int i = 0; i < axioms.length; i++) {
            int number = i;
            check.is("axiom " + i + ", numbered from 0", number, () -> define(lab, "axiom " + axioms[number]));
        }
        check.refuses("a seventh", STATE, () -> define(lab, "axiom ba"));
        check.is("six are left", "a b c aa ab ac", () -> words(lab));
        lab.removeAxiom(2);
        check.is("a sixth again", 5, () -> define(lab, "axiom ba"));
        check.refuses("a seventh again", STATE, () -> define(lab, "axiom bb"));
    }

    private void differentAxioms() {
        check.about("axioms, which are different words");
        ContextualGrammarLab lab = labOf("axiom ab", "axiom a");
        check.refuses("the first again", STATE, () -> define(lab, "axiom ab"));
        check.refuses("the last again", STATE, () -> define(lab, "axiom a"));
        check.is("two", 2, () -> lab.count(0));
        check.is("another word of these letters", 2, () -> define(lab, "axiom aa"));
        lab.removeAxiom(0);
        check.is("a removed one is none any more", 2, () -> define(lab, "axiom ab"));
        lab.removeAxiom(2);
        check.is("nor is a removed last one", 2, () -> define(lab, "axiom ab"));
        define(lab, "limit 1");
        check.refuses("also above the limit", STATE, () -> define(lab, "axiom ab"));
    }

    private void lettersOfAxioms() {
        check.about("words of 1 to 8 letters");
        ContextualGrammarLab lab = labOf("limit 9");
        check.refuses("none", ARGUMENT, () -> define(lab, "axiom "));
        check.is("one", 0, () -> define(lab, "axiom c"));
        check.is("eight", 1, () -> define(lab, "axiom cccccccc"));
        check.refuses("nine", ARGUMENT, () -> define(lab, "axiom ccccccccc"));
        check.is("the axioms", "c cccccccc", () -> words(lab));
    }

    private void fiveContexts() {
        check.about("at most 5 contexts; both are numbered from 0");
        ContextualGrammarLab lab = new ContextualGrammarLab();
        for (int i = 0; i < 5; i++) {
            check.is("context " + i, i, () -> define(lab, "context c, #=0"));
        }
        check.refuses("a sixth", STATE, () -> define(lab, "context a, *"));
        check.is("five are left", "0c 1c 2c 3c 4c", () -> results(lab, ""));
        lab.removeContext(0);
        check.is("a fifth again", 4, () -> define(lab, "context b, #=0"));
        check.refuses("a sixth again", STATE, () -> define(lab, "context a, *"));
        check.is("the new one is the last", "0c 1c 2c 3c 4b", () -> results(lab, ""));
    }

    private void leftPart() {
        check.about("a left part of 1 to 3 letters");
        ContextualGrammarLab lab = labOf("mode external");
        check.refuses("none", ARGUMENT, () -> define(lab, "context ,a *"));
        check.is("one", 0, () -> define(lab, "context c,a *"));
        check.is("three", 1, () -> define(lab, "context abc,a *"));
        check.refuses("four", ARGUMENT, () -> define(lab, "context abcc,a *"));
        check.is("the insertions", "0cba 1abcba", () -> results(lab, "b"));
    }

    private void rightPart() {
        check.about("a right part of 0 to 3 letters");
        ContextualGrammarLab lab = labOf("mode external");
        check.is("none", 0, () -> define(lab, "context a, *"));
        check.is("three", 1, () -> define(lab, "context a,cba *"));
        check.refuses("four", ARGUMENT, () -> define(lab, "context a,cbaa *"));
        check.is("the insertions", "0ab 1abcba", () -> results(lab, "b"));
    }

    private void modeNumbers() {
        check.about("The modes are external (0), internal (1), maximal (2), minimal (3) and left (4).");
        String[] modes = {"external", "internal", "maximal", "minimal", "left"};
        ContextualGrammarLab lab = new ContextualGrammarLab();
        for (int i = 0; i < modes.length; i++) {
            define(lab, "mode " + modes[i]);
            check.is(modes[i], i, () -> lab.count(2));
        }
    }

    private void limits() {
        check.about("The limit is 1 to 9.");
        ContextualGrammarLab lab = labOf("axiom a", "context a, *");
        for (int i = 1; i <= 9; i++) {
            define(lab, "limit " + i);
            check.is("limit " + i, i, () -> lab.count(3));
            check.is("the longest word has " + i + " letters", i, lab::size);
        }
        for (String text : new String[] {"limit 0", "limit 10", "limit -1", "limit /", "limit :", "limit a"}) {
            check.refuses(text, ARGUMENT, () -> define(lab, text));
            check.is("limit after it", 9, () -> lab.count(3));
        }
    }

    private void insertion() {
        aroundTheFactor();
        resultsWithinTheLimit();
        differentFactors();
        orderOfInsertions();
    }

    private void aroundTheFactor() {
        check.about("the left part is inserted directly before the factor and the right part directly after it");
        check.is("the whole word", "0abbac", () -> results(labOf("mode external", "context ab,c *"), "ba"));
        check.is("inside", "0cabbca", () -> results(labOf("context ab,c b=1&#=1"), "cba"));
        check.is("empty factors", "0abcb 0babc", () -> results(labOf("context ab,c #=0"), "b"));
        check.is("at the begin", "0abacb", () -> results(labOf("context ab,c a=1&#=1"), "ab"));
        check.is("at the end", "0aabbc", () -> results(labOf("context ab,c b=1&#=1"), "ab"));
    }

    private void resultsWithinTheLimit() {
        check.about("the new word has at most as many letters as the limit");
        ContextualGrammarLab lab = labOf("mode external", "context ab,c *", "limit 5");
        check.is("5 letters of 5", "0abbac", () -> results(lab, "ba"));
        check.is("6 letters of 5", "", () -> results(lab, "bab"));
        define(lab, "limit 4");
        check.is("5 letters of 4", "", () -> results(lab, "ba"));
        check.is("a word above the limit", "", () -> results(lab, "abcab"));
        define(lab, "limit 9");
        check.is("9 letters of 9", "0abaaaaaac", () -> results(lab, "aaaaaa"));
        check.is("10 letters of 9", "", () -> results(lab, "aaaaaaa"));
        check.is("12 letters of 9", "", () -> results(lab, "aaaaaaaaa"));
        check.is("1 letter of 1", "0c", () -> results(labOf("limit 1", "context c, *"), ""));
        check.is("2 letters of 1", "", () -> results(labOf("limit 1", "context c, *", "context c,c *"), "a"));
        check.is("each context for itself", "1cab", () -> results(labOf("limit 3", "mode external", "context c,c *", "context c, *"), "ab"));
    }

    private void differentFactors() {
        check.about("Factors are different if their positions s or e are different, even if their letters are the same.");
        check.is("equal letters", "0caa 0aca", () -> results(labOf("context c, ^a&#=1"), "aa"));
        check.is("equal results", "0aa 0aa 0aa", () -> results(labOf("context a, *"), "a"));
        check.is("both count", 2L, () -> {
            ContextualGrammarLab lab = labOf("axiom aa", "context a, #=1");
            take(lab, "aaa");
            return lab.derivations();
        });
    }

    private void orderOfInsertions() {
        check.about("Insertions are ordered by context, then by s, then by e.");
        ContextualGrammarLab lab = labOf("context b,c #=1", "context c,b #<2");
        String due = "0baca 0abac 1cbaa 1caba 1acba 1acab 1aacb";
        check.is("all of aa", due, () -> results(lab, "aa"));
    }

    private void modes() {
        external();
        internal();
        maximal();
        contained();
        minimal();
        left();
    }

    /** Insertions with c before and c behind a factor show where it begins and ends. */
    private void selected(String mode, String selector, String word, String due) {
        ContextualGrammarLab lab = labOf("limit 9", "mode " + mode, "context c,c " + selector);
        check.is(mode + " " + selector + " in " + word, due, () -> results(lab, word));
    }

    private void external() {
        check.about("external: only the whole word.");
        selected("external", "*", "ab", "0cabc");
        selected("external", "*", "", "0cc");
        selected("external", "#=2", "ab", "0cabc");
        selected("external", "#=2", "aba", "");
        selected("external", "#<2", "ab", "");
        selected("external", "#=0", "", "0cc");
    }

    private void internal() {
        check.about("internal: all factors that fulfil the selector.");
        selected("internal", "#=2", "aba", "0cabca 0acbac");
        selected("internal", "*", "a", "0cca 0cac 0acc");
        selected("internal", "*", "", "0cc");
        selected("internal", "#=3", "aba", "0cabac");
        selected("internal", "#=4", "aba", "");
    }

    private void maximal() {
        check.about("maximal: those that are not contained in another factor that fulfils the selector.");
        selected("maximal", "*", "ab", "0cabc");
        selected("maximal", "*", "", "0cc");
        selected("maximal", "#=2", "aba", "0cabca 0acbac");
        selected("maximal", "#<3", "aba", "0cabca 0acbac");
        selected("maximal", "#=0", "ab", "0ccab 0accb 0abcc");
        selected("maximal", "#=1&b=1|#=3", "aba", "0cabac");
        selected("maximal", "#=9", "ab", "");
    }

    private void contained() {
        check.about("The factor from s to e is contained in the factor from t to f if t <= s and e <= f.");
        selected("maximal", "^a", "ab", "0cabc");
        selected("maximal", "$b", "ab", "0cabc");
        selected("minimal", "^a", "ab", "0cacb");
        selected("minimal", "$b", "ab", "0acbc");
        selected("maximal", "#=0|#=1&b=1", "ab", "0ccab 0acbc");
        selected("minimal", "#=0|#=1&b=1", "ab", "0ccab 0accb 0abcc");
    }

    private void minimal() {
        check.about("minimal: those that do not contain another factor that fulfils the selector.");
        selected("minimal", "*", "ab", "0ccab 0accb 0abcc");
        selected("minimal", "*", "", "0cc");
        selected("minimal", "#=2", "aba", "0cabca 0acbac");
        selected("minimal", "#>1", "aba", "0cabca 0acbac");
        selected("minimal", "#=1&b=1|#=3", "aba", "0acbca");
        selected("minimal", "#=3", "aba", "0cabac");
        selected("minimal", "#=9", "ab", "");
    }

    private void left() {
        check.about("left: those with the smallest position s of all factors that fulfil the selector.");
        selected("left", "$b", "abb", "0cabcb 0cabbc");
        selected("left", "^b", "aab", "0aacbc");
        selected("left", "#=0", "ab", "0ccab");
        selected("left", "*", "", "0cc");
        selected("left", "#=1&b=1|#=3", "aba", "0cabac");
        selected("left", "#=1&b=1", "abb", "0acbcb");
        selected("left", "^b", "a", "");
    }

    private void language() {
        axiomsWithinTheLimit();
        allResults();
        numbersOfWords();
        mostWords();
        lastWordOfMost();
    }

    private void axiomsWithinTheLimit() {
        check.about("contains all axioms with at most as many letters as the limit");
        ContextualGrammarLab lab = labOf("axiom abca", "axiom abc", "axiom c", "mode external", "context b, #=4");
        define(lab, "limit 3");
        check.is("3 letters", "c abc", () -> words(lab));
        define(lab, "limit 4");
        check.is("4 letters", "c abc abca", () -> words(lab));
        define(lab, "limit 5");
        check.is("5 letters", "c abc abca babca", () -> words(lab));
        define(lab, "limit 1");
        check.is("1 letter", "c", () -> words(lab));
        lab.removeAxiom(2);
        check.is("none", "", () -> words(lab));
    }

    private void allResults() {
        check.about("and with every word all results of its possible insertions");
        check.is("nested", "a bac bbacc", () -> words(labOf("mode external", "axiom a", "context b,c *")));
        check.is("all places", "a aa ba aaa aba baa bba", () -> words(labOf("mode external", "limit 3", "axiom a", "context a, *", "context b, *")));
        check.is("no axiom, no word", "", () -> words(labOf("context a, *")));
    }

    private void numbersOfWords() {
        check.about("Its words are numbered from 0 in the order of words.");
        ContextualGrammarLab lab = labOf("mode external", "limit 3", "axiom c", "context b, *", "axiom a");
        String[] words = {"a", "c", "ba", "bc", "bba", "bbc"};
        for (int i = 0; i < words.length; i++) {
            int index = i;
            lab.takeWord(i);
            check.is("word " + i, words[i], () -> word(lab));
            check.is("rank of " + words[i], index, lab::rank);
        }
        check.refuses("behind the last", BOUNDS, () -> lab.takeWord(6));
    }

    private void mostWords() {
        check.about("The language is too large if it has more than 300 words.");
        ContextualGrammarLab lab = full();
        check.is("300", 300, lab::size);
        lab.takeWord(299);
        check.is("the last of 300", 299, lab::rank);
        check.is("it is long", 5, lab::wordLength);
        define(lab, "context bb,ac a=1&#=1");
        check.refuses("301", LARGE, lab::size);
        lab.removeContext(3);
        check.is("300 again", 300, lab::size);
        define(lab, "limit 6");
        check.refuses("far more", LARGE, lab::size);
        define(lab, "limit 1");
        check.is("2", 2, lab::size);
    }

    private void lastWordOfMost() {
        check.about("The language is too large if it has more than 300 words.");
        ContextualGrammarLab lab = labOf("mode external", "context a, #<5", "context b, #<5", "context c, #<5", "context a, c=5&#=5",
                "axiom a", "axiom b", "axiom cc", "axiom bbc", "axiom abac");
        check.is("300", 300, lab::size);
        check.is("the 300th is made of the 299th", "4 202 203 204 305", () -> derivation(lab, "accccc"));
        check.is("it is the last", 299, lab::rank);
        check.is("by one derivation", 1L, lab::derivations);
        check.is("its context is used", true, () -> lab.isUsed(3));
        check.is("it follows", true, () -> lab.canFollow(2, 3));
        check.is("it is necessary", false, () -> lab.isRedundant(3));
        check.is("all are necessary", 15, lab::minimalContexts);
    }

    private void derivations() {
        noInsertions();
        differentDerivations();
        fewestInsertions();
        firstAxiom();
        firstInsertions();
    }

    private void noInsertions() {
        check.about("it may have no insertions");
        ContextualGrammarLab lab = labOf("axiom ab");
        check.is("the axiom's derivation", "0", () -> derivation(lab, "ab"));
        check.is("it is the only one", 1L, lab::derivations);
    }

    private void differentDerivations() {
        check.about("Derivations are different if they start with different axioms or if their insertions differ.");
        ContextualGrammarLab lab = labOf("axiom a", "axiom aa", "context a, #=0", "limit 3");
        take(lab, "aa");
        check.is("itself and two insertions", 3L, lab::derivations);
        take(lab, "aaa");
        check.is("three insertions behind each", 9L, lab::derivations);
        define(lab, "limit 2");
        check.is("above the limit", 0L, lab::derivations);
        ContextualGrammarLab twice = labOf("axiom a", "mode external", "context b, *", "context b, *", "context b, *");
        take(twice, "bba");
        check.is("three contexts, twice", 9L, twice::derivations);
    }

    private void fewestInsertions() {
        check.about("The best derivation of a word has the fewest insertions.");
        ContextualGrammarLab lab = labOf("mode external", "axiom b", "context a, *", "context aa, *");
        check.is("not three", "2 001 102", () -> derivation(lab, "aaab"));
        define(lab, "axiom aab");
        check.is("by a later axiom", "1 003", () -> derivation(lab, "aaab"));
        check.is("an axiom itself", "0", () -> derivation(lab, "aab"));
    }

    private void firstAxiom() {
        check.about("the axioms are compared in the order of words first");
        ContextualGrammarLab lab = labOf("axiom b", "axiom a", "context a, #=0", "context b, #=0");
        check.is("from a, not from b", "1 111", () -> derivation(lab, "ab"));
        ContextualGrammarLab shorter = labOf("axiom ab", "axiom c", "context c, #=0", "context ab, #=0");
        check.is("from c, not from ab", "1 100", () -> derivation(shorter, "abc"));
        ContextualGrammarLab two = labOf("axiom c", "axiom a", "limit 3", "context a, #=0", "context b, #=0", "context c, #=0");
        check.is("two insertions from a", "2 111 222", () -> derivation(two, "abc"));
    }

    private void firstInsertions() {
        check.about("and then the insertions one after the other");
        check.is("the first decides", "2 001 102", () -> derivation(labOf("mode external", "axiom a", "context b, *", "context bb, *"), "bbba"));
        check.is("then the second", "2 003 105", () -> derivation(labOf("mode external", "limit 8", "axiom aaa", "context b,c *", "context a, *", "context a, *"), "abaaac"));
        check.is("the smallest s", "2 000 000", () -> derivation(labOf("axiom b", "context b, #=0"), "bbb"));
        check.is("the smallest e", "1 001", () -> derivation(labOf("axiom ab", "context c, #>0"), "cab"));
    }

    private void reduction() {
        outsideTheLanguage();
        possibleInTheRest();
        orderOfReductions();
        irreducible();
        numbersOfForms();
    }

    private void outsideTheLanguage() {
        check.about("x need not belong to the language");
        check.is("no axioms", "0b 0b", () -> reduced(labOf("context a, *"), "ab"));
        check.is("another axiom", "0b", () -> reduced(labOf("axiom c", "context a, #=0"), "ab"));
        check.is("a large language", "0aaaaaaa", () -> {
            ContextualGrammarLab lab = large();
            define(lab, "mode external");
            return reduced(lab, "aaaaaaaa");
        });
    }

    private void possibleInTheRest() {
        check.about("reduced to a word x by an insertion that is possible in x and gives w");
        check.is("up to the limit", "0b", () -> reduced(labOf("limit 2", "context a, #=0"), "ab"));
        check.is("above the limit", "", () -> reduced(labOf("limit 1", "context a, #=0"), "ab"));
        check.is("to a word of 8 letters", "0bbbbbbbb", () -> reduced(labOf("limit 9", "context a, #=0"), "abbbbbbbb"));
        check.is("6 letters of 9 go", "0aaa", () -> reduced(labOf("limit 9", "context abc,cba #=3"), "abcaaacba"));
        check.is("6 letters of 6 go", "0-", () -> reduced(labOf("context abc,cba *"), "abccba"));
        check.is("another right part", "", () -> reduced(labOf("context a,b *", "context abc,cba *"), "ac"));
        check.is("another left part", "", () -> reduced(labOf("context a,b *", "context abc,cba *"), "cb"));
        check.is("another letter of the right part", "", () -> reduced(labOf("context abc,cba *"), "abccbb"));
        check.is("another letter of the left part", "", () -> reduced(labOf("context abc,cba *"), "abbcba"));
        check.is("a part stands over", "", () -> reduced(labOf("context abc,cba *"), "abccb"));
        check.is("selected in the word, not in the rest", "", () -> reduced(labOf("mode external", "context a, #=3"), "abb"));
        check.is("left of it another factor", "", () -> reduced(labOf("mode left", "context a, ^b"), "bab"));
        check.is("any factor", "0bb", () -> reduced(labOf("mode internal", "context a, ^b"), "bab"));
        check.is("one way for each factor", "0aa 0aa 0aa 0aa 0aa 0aa", () -> reduced(labOf("context a, *"), "aaa"));
    }

    private void orderOfReductions() {
        check.about("Reductions are ordered by their words x, in the order of words, and those with the same word x by their insertions.");
        check.is("the shorter first", "1c 0bc", () -> reduced(labOf("mode external", "context a, *", "context ab, *"), "abc"));
        check.is("then by letters", "1b 0c", () -> reduced(labOf("mode external", "context ab, *", "context a,c *"), "abc"));
        check.is("then by context", "0b 1b", () -> reduced(labOf("mode external", "context a, *", "context a, *"), "ab"));
        String[] texts = {"mode external", "context ab, *", "context a,a *", "context ab, *", "context abc, *"};
        check.is("words before contexts", "3a 1bc 0ca 2ca", () -> reduced(labOf(texts), "abca"));
    }

    private void irreducible() {
        check.about("The normal forms of a word are all irreducible words that can be reached from it by zero or more reductions");
        check.is("no contexts", "abc", () -> forms(new ContextualGrammarLab(), "abc"));
        check.is("zero reductions", "ba", () -> forms(labOf("mode external", "context a, *"), "ba"));
        check.is("one", "b", () -> forms(labOf("mode external", "context a, *"), "ab"));
        check.is("nine", "-", () -> forms(labOf("limit 9", "mode external", "context a, *"), "aaaaaaaaa"));
        check.is("not those on the way", "b", () -> forms(labOf("mode external", "context a, *"), "aaab"));
        check.is("above the limit", "aaaaaaa", () -> forms(labOf("mode external", "context a, *"), "aaaaaaa"));
    }

    private void numbersOfForms() {
        check.about("they are numbered from 0 in the order of words");
        check.is("by letters", "b c", () -> forms(labOf("mode external", "context ab, *", "context a,c *"), "abc"));
        check.is("by lengths", "c bc", () -> forms(labOf("mode external", "context a, #=2", "context ab, #=1"), "abc"));
        check.is("the empty word first", "- b", () -> forms(labOf("mode external", "context a, #=1", "context ab, #=0"), "ab"));
    }

    private void followRelation() {
        wordsOfTheLanguage();
        loops();
        lengthOfLoops();
    }

    private void wordsOfTheLanguage() {
        check.about("there are words x, y and z of the language such that an insertion of context i in x gives y and an insertion of context j in y gives z");
        ContextualGrammarLab lab = labOf("mode external", "axiom a", "limit 3", "context b, #=1", "context c, #=2");
        check.is("1 behind 0", true, () -> lab.canFollow(0, 1));
        check.is("0 behind 1", false, () -> lab.canFollow(1, 0));
        check.is("0 behind 0", false, () -> lab.canFollow(0, 0));
        define(lab, "limit 2");
        check.is("no z", false, () -> lab.canFollow(0, 1));
        define(lab, "limit 3");
        lab.removeAxiom(0);
        check.is("no x", false, () -> lab.canFollow(0, 1));
        define(lab, "axiom aa");
        define(lab, "axiom bb");
        check.is("context 0 gives no y", false, () -> lab.canFollow(0, 1));
        check.is("but context 1 is used", true, () -> lab.isUsed(1));
    }

    private void loops() {
        check.about("A loop through context i is a sequence of contexts that begins and ends with i and in which each context can follow the one before it");
        ContextualGrammarLab lab = labOf("mode external", "axiom a", "context b, #=1", "context c, #>1");
        check.refuses("a way to a loop is none", MISSING, () -> lab.shortestLoop(0));
        check.is("the loop behind it", 1, () -> lab.shortestLoop(1));
        define(lab, "limit 3");
        check.refuses("a loop needs room", MISSING, () -> lab.shortestLoop(1));
    }

    private void lengthOfLoops() {
        check.about("its length is the number of its contexts minus 1, which is at least 1");
        ContextualGrammarLab one = labOf("axiom a", "limit 3", "context a, *");
        check.is("length 1", 1, () -> one.shortestLoop(0));
        ContextualGrammarLab two = labOf("mode external", "axiom b", "limit 4", "context a, ^b", "context b, ^a");
        check.is("length 2", 2, () -> two.shortestLoop(0));
        check.is("length 2 from its end", 2, () -> two.shortestLoop(1));
        define(two, "limit 3");
        check.refuses("no room for it", MISSING, () -> two.shortestLoop(0));
        ContextualGrammarLab five = labOf("mode external", "limit 8", "axiom aa", "context b, ^aa", "context b, ^ba",
                "context c, ^bb", "context a, ^cb", "context a, ^ac");
        check.is("length 5", 5, () -> five.shortestLoop(0));
        check.is("length 5 from its end", 5, () -> five.shortestLoop(4));
    }

    private void currentWord() {
        check.about("The laboratory has a current word of at most 9 letters, which is empty at first.");
        ContextualGrammarLab lab = new ContextualGrammarLab();
        check.is("at first", 0, lab::wordLength);
        take(lab, "ccccccccc");
        check.is("9 letters", 9, lab::wordLength);
        check.refuses("a tenth", STATE, () -> lab.addLetter('c'));
        check.is("the word of 9 letters", "ccccccccc", () -> word(lab));
        notOfTheGrammar();
    }

    private void notOfTheGrammar() {
        check.about("It does not belong to the grammar.");
        ContextualGrammarLab lab = labOf("axiom abc", "axiom a");
        lab.takeAxiom(0);
        lab.removeAxiom(0);
        check.is("its axiom is gone", "abc", () -> word(lab));
        define(lab, "limit 1");
        check.is("it may be above the limit", "abc", () -> word(lab));
        check.is("it is not in the language", false, lab::isGenerated);
        lab.addLetter('c');
        check.is("the language", "a", () -> words(lab));
    }

    private void arrays() {
        threeSlots();
        emptySlots();
        typesOfArrays();
        mostElements();
    }

    private void threeSlots() {
        check.about("There are 3 array slots, numbered 0 to 2.");
        ContextualGrammarLab lab = new ContextualGrammarLab();
        for (int i = 0; i < 3; i++) {
            int slot = i;
            check.does("slot " + i, () -> lab.allocate(slot, 2, 1));
            lab.store(slot, 0, slot + 7);
        }
        for (int i = 0; i < 3; i++) {
            int slot = i;
            check.is("slot " + i + " for itself", slot + 7, () -> lab.element(slot, 0));
        }
        check.refuses("slot 3", BOUNDS, () -> lab.allocate(3, 2, 1));
        check.refuses("slot -1", BOUNDS, () -> lab.allocate(-1, 2, 1));
    }

    private void emptySlots() {
        check.about("A slot is empty, as at first, or holds an array");
        ContextualGrammarLab lab = new ContextualGrammarLab();
        for (int i = 0; i < 3; i++) {
            int slot = i;
            check.refuses("element of slot " + i, STATE, () -> lab.element(slot, 0));
            check.refuses("store in slot " + i, STATE, () -> lab.store(slot, 0, 0));
            check.refuses("sizes in slot " + i, STATE, () -> lab.compareSizes(slot));
        }
        lab.allocate(1, 0, 0);
        check.refuses("an array without elements", BOUNDS, () -> lab.element(1, 0));
        check.refuses("the slot before it", STATE, () -> lab.element(0, 0));
        check.refuses("the slot behind it", STATE, () -> lab.element(2, 0));
    }

    private void typesOfArrays() {
        check.about("an array of bytes (type 0), shorts (type 1) or ints (type 2)");
        ContextualGrammarLab lab = new ContextualGrammarLab();
        int[] due = {0x78, 0x5678, 0x12345678};
        for (int i = 0; i < 3; i++) {
            int type = i;
            check.does("type " + i, () -> lab.allocate(0, type, 1));
            lab.store(0, 0, 0x12345678);
            check.is("element of type " + i, due[i], () -> lab.element(0, 0));
        }
        check.refuses("type 3", ARGUMENT, () -> lab.allocate(0, 3, 1));
        check.refuses("type -1", ARGUMENT, () -> lab.allocate(0, -1, 1));
    }

    private void mostElements() {
        check.about("with at most 20 elements");
        ContextualGrammarLab lab = new ContextualGrammarLab();
        check.does("20", () -> lab.allocate(0, 2, 20));
        check.does("the last", () -> lab.store(0, 19, 5));
        check.is("the last", 5, () -> lab.element(0, 19));
        check.refuses("21", ARGUMENT, () -> lab.allocate(0, 2, 21));
        check.is("the array of 20 stays", 5, () -> lab.element(0, 19));
    }
}
