import java.lang.reflect.InvocationTargetException;
import java.lang.reflect.Method;
import java.util.ArrayList;
import java.util.HashMap;
import java.util.List;
import java.util.Map;
import java.util.Random;

/** Runs of calls, drawn with fixed seeds, on the class under test and on ReferenceLab: both have to answer the same. */
public final class CompareTest {
    private static final String[] MODES = {"external", "internal", "maximal", "minimal", "left"};

    private final Map<String, Method> tested = methodsOf(ContextualGrammarLab.class);
    private final Map<String, Method> reference = methodsOf(ReferenceLab.class);
    private final Random random;
    private final ContextualGrammarLab lab = new ContextualGrammarLab();
    private final ReferenceLab model = new ReferenceLab();
    private final List<String> history = new ArrayList<>();
    /** Few letters and easy selectors make words to which much can be done. */
    private final int alphabet;
    private final boolean easy;
    private int calls = 0;
    private boolean differs = false;

    private CompareTest(long seed) {
        random = new Random(seed);
        alphabet = 1 + below(3);
        easy = below(2) == 0;
    }

    public static void main(String[] args) {
        int runs = args.length > 0 ? Integer.parseInt(args[0]) : 300;
        int first = args.length > 1 ? Integer.parseInt(args[1]) : 0;
        int wrong = 0;
        long calls = 0;
        for (int seed = first; seed < first + runs && wrong < 5; seed++) {
            CompareTest test = new CompareTest(seed);
            test.run();
            calls += test.calls;
            if (test.differs) {
                wrong++;
                System.out.println("seed " + seed + ":");
                test.history.forEach(line -> System.out.println("  " + line));
            }
        }
        System.out.println("CompareTest: " + calls + " calls, " + wrong + " wrong runs");
        if (wrong > 0) {
            System.exit(1);
        }
    }

    private static Map<String, Method> methodsOf(Class<?> type) {
        Map<String, Method> methods = new HashMap<>();
        for (Method method : type.getDeclaredMethods()) {
            method.setAccessible(true);
            methods.put(method.getName(), method);
        }
        return methods;
    }

    private static String answer(Method method, Object object, Object... arguments) {
        try {
            return String.valueOf(method.invoke(object, arguments));
        } catch (InvocationTargetException e) {
            return "throws." + e.getCause().getClass().getSimpleName();
        } catch (IllegalAccessException e) {
            return "no access";
        }
    }

    private void call(String name, Object... arguments) {
        if (differs || calls >= 512) {
            return;
        }
        calls++;
        String due = answer(reference.get(name), model, arguments);
        String got = answer(tested.get(name), lab, arguments);
        differs = !due.equals(got);
        history.add(name + List.of(arguments) + " -> " + got + (differs ? ", due is " + due : ""));
    }

    private int below(int bound) {
        return random.nextInt(bound);
    }

    private void run() {
        define("limit " + (3 + below(7)));
        define("mode " + MODES[below(5)]);
        for (int i = 1 + below(3); i > 0; i--) {
            define("axiom " + letters(1, below(6) == 0 ? 8 : 3));
        }
        for (int i = 1 + below(easy ? 5 : 3); i > 0; i--) {
            define(contextText());
        }
        for (int i = 0; i < 120 && !differs; i++) {
            anyCall();
        }
    }

    private void define(String text) {
        for (char c : text.toCharArray()) {
            call("append", c);
        }
        call("define");
        call("faultPosition");
    }

    private String letters(int least, int most) {
        StringBuilder word = new StringBuilder();
        for (int i = least + below(most - least + 1); i > 0; i--) {
            word.append((char) ('a' + below(below(8) == 0 ? 3 : alphabet)));
        }
        return word.toString();
    }

    private String contextText() {
        String parts = letters(1, below(3) == 0 ? 3 : 1) + "," + letters(0, below(3) == 0 ? 3 : 1);
        return "context " + parts + " " + (easy && below(3) > 0 ? condition(0) : selector(3));
    }

    private String selector(int depth) {
        StringBuilder text = new StringBuilder(condition(depth));
        for (int i = below(5) - 2; i > 0; i--) {
            text.append(below(2) == 0 ? '&' : '|').append(condition(depth));
        }
        return text.toString();
    }

    private String condition(int depth) {
        switch (below(depth > 0 ? 8 : 6)) {
            case 0:
            case 1: return "abc#".charAt(below(4)) + "" + "<=>".charAt(below(3)) + below(below(4) == 0 ? 10 : 4);
            case 2: return "^" + letters(1, 2);
            case 3: return "$" + letters(1, 2);
            case 4: return "~" + letters(1, 3);
            case 5: return "*";
            case 6: return "!" + condition(depth - 1);
            default: return "(" + selector(depth - 1) + ")";
        }
    }

    /** A text that is often faulty: a fitting one with a character changed, put in or taken out, or cut off. */
    private String spoiltText() {
        String[] texts = {"axiom " + letters(1, 9), "limit " + below(11), "mode " + MODES[below(5)], contextText(), contextText()};
        StringBuilder text = new StringBuilder(texts[below(texts.length)]);
        int place = below(text.length());
        String signs = "abc,!(*)&|<=>#^$~ 0159xm\u0000\u00e9\uffff";
        char sign = signs.charAt(below(signs.length()));
        switch (below(5)) {
            case 0: text.setCharAt(place, sign); break;
            case 1: text.insert(place, sign); break;
            case 2: text.deleteCharAt(place); break;
            case 3: text.setLength(place); break;
            default: text.append(sign); break;
        }
        return text.toString();
    }

    private void anyCall() {
        switch (below(24)) {
            case 0: changeGrammar(); break;
            case 1: define(spoiltText()); break;
            case 2: call("size"); call("sizeOf", below(12) - 1); call("density", below(10)); break;
            case 3: call("isUsed", below(5) - 1); call("isRedundant", below(5) - 1); break;
            case 4: call("minimalContexts"); break;
            case 5: call("canFollow", below(5) - 1, below(4)); call("shortestLoop", below(5) - 1); break;
            case 6: call("isConfluent"); break;
            case 7: call("clearWord"); addLetters(10); break;
            case 8: call("addLetter", (char) ('a' + below(3))); call("addLetter", (char) ('`' + below(5))); break;
            case 9: call("takeAxiom", below(5) - 1); break;
            case 10:
            case 11: call("takeWord", anyIndex("size")); break;
            case 12: lookAtWord(); break;
            case 13: call("isGenerated"); call("rank"); break;
            case 14:
            case 15: lookAtDerivation(); break;
            case 16:
            case 17: call("insertions"); call("insert", anyIndex("insertions")); lookAtWord(); break;
            case 18:
            case 19: call("reductions"); call("reduce", anyIndex("reductions")); lookAtWord(); break;
            case 20: call("normalForms"); call("normalize", anyIndex("normalForms")); lookAtWord(); break;
            case 21: useArrays(); break;
            case 22: call(below(2) == 0 ? "save" : "restore"); break;
            default: call("count", below(7) - 1); break;
        }
    }

    private void changeGrammar() {
        switch (below(6)) {
            case 0: call("removeAxiom", below(5) - 1); break;
            case 1: call("removeContext", below(5) - 1); break;
            case 2: define("mode " + MODES[below(5)]); break;
            case 3: define("limit " + (1 + below(9))); break;
            case 4: define("axiom " + letters(1, 3)); break;
            default: define(contextText()); break;
        }
    }

    private void addLetters(int most) {
        for (char letter : letters(0, most).toCharArray()) {
            call("addLetter", letter);
        }
    }

    /** Mostly an index below the number that a method of the model answers, seldom one beside them. */
    private int anyIndex(String method) {
        String number = answer(reference.get(method), model);
        int bound = number.startsWith("throws") ? 1 : Integer.parseInt(number);
        return below(6) == 0 ? below(2) * (bound + 1) - 1 : below(Math.max(bound, 1));
    }

    private void lookAtWord() {
        call("wordLength");
        for (int i = 0; i < model.wordLength(); i++) {
            call("letterAt", i);
        }
        call("letterAt", below(2) == 0 ? -1 : model.wordLength());
    }

    private void lookAtDerivation() {
        call("derivations");
        call("derivationLength");
        for (int step = -1; step < 3; step++) {
            call("derivationStep", step, below(5) - 1);
        }
    }

    private void useArrays() {
        int slot = below(5) - 1;
        call("allocate", slot, below(5) - 1, below(3) == 0 ? below(24) - 1 : 10);
        call("store", slot, below(11) - 1, random.nextInt());
        call("element", slot, below(11) - 1);
        call("allocate", slot, 2, below(11));
        for (int i = 0; i < 10 && below(10) > 0; i++) {
            String number = answer(reference.get("sizeOf"), model, i);
            call("store", slot, i, number.startsWith("throws") ? i : Integer.parseInt(number));
        }
        call("compareSizes", slot);
        call("compareSizes", below(3));
    }
}
