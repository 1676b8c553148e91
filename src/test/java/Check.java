import java.util.concurrent.Callable;

/** Compares answers with those that are due and counts the wrong ones. */
final class Check {
    private int checks = 0;
    private int wrong = 0;
    private String sentence = "";

    /** What a call answers: its result as a text, or the name of the exception's class behind "throws.". */
    static String answer(Callable<Object> call) {
        try {
            return String.valueOf(call.call());
        } catch (Exception e) {
            return "throws." + e.getClass().getSimpleName();
        }
    }

    static Callable<Object> done(Runnable action) {
        return () -> {
            action.run();
            return "done";
        };
    }

    /** The sentence of the document that the checks from here on belong to. */
    void about(String newSentence) {
        sentence = newSentence;
    }

    void is(String what, Object due, Callable<Object> call) {
        String got = answer(call);
        checks++;
        if (!got.equals(String.valueOf(due))) {
            wrong++;
            System.out.println(what + " answered " + got + ", due is " + due);
            if (!sentence.isEmpty()) {
                System.out.println("    " + sentence);
            }
        }
    }

    void does(String what, Runnable action) {
        is(what, "done", done(action));
    }

    void refuses(String what, String exception, Runnable action) {
        is(what, "throws." + exception, done(action));
    }

    void end(String name) {
        System.out.println(name + ": " + checks + " checks, " + wrong + " wrong");
        if (wrong > 0) {
            System.exit(1);
        }
    }
}
