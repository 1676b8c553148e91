import java.lang.management.ManagementFactory;

/** Full runs on the largest languages and words: no call fails in them, and what they allocate stays small. */
public final class BusyTest {
    /** 7.3 million elements and 600,000 objects are the room of a run; this many bytes are far less. */
    private static final long MOST_BYTES = 8_000_000;

    private final Check check = new Check();

    public static void main(String[] args) {
        BusyTest test = new BusyTest();
        test.largestLanguage();
        test.longestWords();
        test.manyContexts();
        test.check.end("BusyTest");
    }

    private static void define(ContextualGrammarLab lab, String text) {
        for (char c : text.toCharArray()) {
            lab.append(c);
        }
        lab.define();
    }

    private static long allocated() {
        com.sun.management.ThreadMXBean threads = (com.sun.management.ThreadMXBean) ManagementFactory.getThreadMXBean();
        return threads.getThreadAllocatedBytes(Thread.currentThread().getId());
    }

    private void allocates(String run, Runnable calls) {
        calls.run();
        long before = allocated();
        calls.run();
        long bytes = allocated() - before;
        check.is(run + " keeps the room (" + bytes + " bytes)", true, () -> bytes < MOST_BYTES);
    }

    /** 300 words, changed before every question so that nothing is kept. */
    private void largestLanguage() {
        allocates("the largest language", () -> {
            ContextualGrammarLab lab = new ContextualGrammarLab();
            for (String text : new String[] {"limit 5", "context a, *", "context b, *", "context c, *", "mode external",
                    "axiom a", "axiom b", "axiom cc", "axiom bbc", "axiom abac", "axiom aaaac"}) {
                define(lab, text);
            }
            lab.save();
            for (int i = 0; i < 60; i++) {
                lab.restore();
                lab.isConfluent();
                lab.minimalContexts();
                lab.takeWord(299);
                lab.derivationStep(lab.derivationLength() - 1, 0);
                lab.normalForms();
            }
        });
    }

    private void longestWords() {
        allocates("the longest words", () -> {
            ContextualGrammarLab lab = new ContextualGrammarLab();
            for (String text : new String[] {"limit 9", "context a, *", "context b, *", "context c, *", "context a, $a"}) {
                define(lab, text);
            }
            for (char c : "abcabcabc".toCharArray()) {
                lab.addLetter(c);
            }
            lab.save();
            for (int i = 0; i < 110; i++) {
                lab.restore();
                lab.normalForms();
                lab.reductions();
                lab.insertions();
            }
        });
    }

    private void manyContexts() {
        allocates("many contexts", () -> {
            ContextualGrammarLab lab = new ContextualGrammarLab();
            for (int i = 0; i < 36; i++) {
                define(lab, "context a, *");
                lab.insertions();
                lab.removeContext(0);
            }
        });
    }
}
