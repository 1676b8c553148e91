import java.util.ArrayList;
import java.util.Comparator;
import java.util.HashMap;
import java.util.LinkedHashSet;
import java.util.List;
import java.util.Map;
import java.util.NoSuchElementException;
import java.util.Set;
import java.util.TreeSet;

/**
 * A second laboratory, written after the document alone, with texts and sets and without any cleverness. It shares no
 * way of working with the class under test: selectors are read from their texts at each use, reductions are looked for
 * among all words that can be left over, and so on.
 */
final class ReferenceLab {
    static final Comparator<String> ORDER = Comparator.comparingInt(String::length).thenComparing(Comparator.naturalOrder());
    private static final List<String> MODES = List.of("external", "internal", "maximal", "minimal", "left");

    record Context(String left, String right, String selector) { }

    record Insertion(int context, int s, int e, String result) { }

    record Reduction(String word, int context, int s, int e) { }

    record Grammar(List<String> axioms, List<Context> contexts, int mode, int limit) { }

    private Grammar grammar = new Grammar(List.of(), List.of(), 1, 6);
    private String text = "";
    private int fault = -1;
    private String word = "";
    private Grammar savedGrammar = null;
    private String savedWord = "";
    private final int[] types = {-1, -1, -1};
    private final int[][] arrays = new int[3][];
    private final Map<String, Boolean> truths = new HashMap<>();
    private TreeSet<String> known = null;
    private Map<String, Set<String>> knownForms = new HashMap<>();

    // ---- definitions

    void append(char c) {
        if (text.length() == 60) {
            throw new IllegalStateException();
        }
        text += c;
    }

    /** The fault position by trying every prefix: the first one that no definition text begins with. */
    static int fault(String text) {
        for (int i = 1; i <= text.length(); i++) {
            if (!canContinue(text.substring(0, i))) {
                return i - 1;
            }
        }
        return isWhole(text) ? -1 : text.length();
    }

    private static boolean isWhole(String text) {
        if (text.matches("axiom [abc]{1,8}") || text.matches("limit [1-9]")) {
            return true;
        }
        if (text.startsWith("mode ")) {
            return MODES.contains(text.substring(5));
        }
        return text.matches("(?s)context [abc]{1,3},[abc]{0,3} .*") && selectorState(text.substring(text.indexOf(' ', 8) + 1)) == 2;
    }

    private static boolean canContinue(String prefix) {
        for (String start : List.of("axiom ", "context ", "mode ", "limit ")) {
            if (start.startsWith(prefix)) {
                return true;
            }
        }
        for (String mode : MODES) {
            if (("mode " + mode).startsWith(prefix)) {
                return true;
            }
        }
        if (prefix.matches("axiom [abc]{1,8}") || prefix.matches("limit [1-9]") || prefix.matches("context [abc]{1,3}(,[abc]{0,3})?")) {
            return true;
        }
        return prefix.matches("(?s)context [abc]{1,3},[abc]{0,3} .*") && selectorState(prefix.substring(prefix.indexOf(' ', 8) + 1)) > 0;
    }

    /** 0 if no selector begins with the text, 1 if one does, 2 if it is a selector itself. An automaton with a stack. */
    private static int selectorState(String text) {
        String open = "";
        String state = "start";
        for (char c : text.toCharArray()) {
            if (state.equals("pattern1") || state.equals("pattern2")) {
                if ("abc".indexOf(c) >= 0) {
                    state = state.equals("pattern1") ? "pattern2" : "end";
                    continue;
                }
                state = "end";
            }
            if (state.equals("end")) {
                while (open.endsWith("!")) {
                    open = open.substring(0, open.length() - 1);
                }
                if (c == '&' || c == '|') {
                    state = "start";
                } else if (c == ')' && open.endsWith("(")) {
                    open = open.substring(0, open.length() - 1);
                } else {
                    return 0;
                }
                continue;
            }
            switch (state) {
                case "start":
                    if (c == '!' || c == '(') {
                        open += c;
                        if (open.length() > 6) {
                            return 0;
                        }
                    } else if (c == '*') {
                        state = "end";
                    } else if ("abc#".indexOf(c) >= 0) {
                        state = "relation";
                    } else if ("^$~".indexOf(c) >= 0) {
                        state = "pattern0";
                    } else {
                        return 0;
                    }
                    break;
                case "relation":
                    if ("<=>".indexOf(c) < 0) {
                        return 0;
                    }
                    state = "digit";
                    break;
                case "digit":
                    if ("0123456789".indexOf(c) < 0) {
                        return 0;
                    }
                    state = "end";
                    break;
                default:
                    if ("abc".indexOf(c) < 0) {
                        return 0;
                    }
                    state = "pattern1";
                    break;
            }
        }
        return !open.contains("(") && (state.equals("end") || state.equals("pattern1") || state.equals("pattern2")) ? 2 : 1;
    }

    int define() {
        String read = text;
        text = "";
        fault = fault(read);
        if (fault >= 0) {
            throw new IllegalArgumentException();
        }
        String value = read.substring(read.indexOf(' ') + 1);
        List<String> axioms = new ArrayList<>(grammar.axioms);
        List<Context> contexts = new ArrayList<>(grammar.contexts);
        switch (read.charAt(0)) {
            case 'a':
                if (axioms.size() == 6 || axioms.contains(value)) {
                    throw new IllegalStateException();
                }
                axioms.add(value);
                change(new Grammar(axioms, contexts, grammar.mode, grammar.limit));
                return axioms.size() - 1;
            case 'c':
                if (contexts.size() == 5) {
                    throw new IllegalStateException();
                }
                int comma = value.indexOf(',');
                int space = value.indexOf(' ');
                contexts.add(new Context(value.substring(0, comma), value.substring(comma + 1, space), value.substring(space + 1)));
                change(new Grammar(axioms, contexts, grammar.mode, grammar.limit));
                return contexts.size() - 1;
            case 'm':
                int mode = grammar.mode;
                change(new Grammar(axioms, contexts, MODES.indexOf(value), grammar.limit));
                return mode;
            default:
                int limit = grammar.limit;
                change(new Grammar(axioms, contexts, grammar.mode, value.charAt(0) - '0'));
                return limit;
        }
    }

    private void change(Grammar next) {
        grammar = next;
        known = null;
        knownForms = new HashMap<>();
    }

    int faultPosition() {
        return fault;
    }

    void removeAxiom(int axiom) {
        index(axiom, grammar.axioms.size());
        List<String> axioms = new ArrayList<>(grammar.axioms);
        axioms.remove(axiom);
        change(new Grammar(axioms, grammar.contexts, grammar.mode, grammar.limit));
    }

    void removeContext(int context) {
        index(context, grammar.contexts.size());
        change(without(context));
    }

    private Grammar without(int context) {
        List<Context> contexts = new ArrayList<>(grammar.contexts);
        contexts.remove(context);
        return new Grammar(grammar.axioms, contexts, grammar.mode, grammar.limit);
    }

    int count(int what) {
        switch (what) {
            case 0: return grammar.axioms.size();
            case 1: return grammar.contexts.size();
            case 2: return grammar.mode;
            case 3: return grammar.limit;
            case 4: return text.length();
            default: throw new IllegalArgumentException();
        }
    }

    private static void index(int index, int bound) {
        if (index < 0 || index >= bound) {
            throw new IndexOutOfBoundsException();
        }
    }

    // ---- selectors, straight from their texts

    private boolean holds(String selector, String factor) {
        return truths.computeIfAbsent(selector + " " + factor, k -> alternative(selector, factor));
    }

    /** The places of an operator that stands in no bracket split the text. */
    private static List<String> split(String text, char operator) {
        List<String> parts = new ArrayList<>();
        int open = 0;
        int from = 0;
        for (int i = 0; i < text.length(); i++) {
            char c = text.charAt(i);
            open += c == '(' ? 1 : c == ')' ? -1 : 0;
            if (c == operator && open == 0) {
                parts.add(text.substring(from, i));
                from = i + 1;
            }
        }
        parts.add(text.substring(from));
        return parts;
    }

    private static boolean alternative(String text, String w) {
        boolean any = false;
        for (String part : split(text, '|')) {
            boolean all = true;
            for (String condition : split(part, '&')) {
                all = all & condition(condition, w);
            }
            any = any | all;
        }
        return any;
    }

    private static boolean condition(String text, String w) {
        String rest = text.substring(1);
        switch (text.charAt(0)) {
            case '!': return !condition(rest, w);
            case '(': return alternative(text.substring(1, text.length() - 1), w);
            case '*': return true;
            case '^': return w.startsWith(rest);
            case '$': return w.endsWith(rest);
            case '~': return w.contains(rest);
            default:
                long number = w.length();
                if (text.charAt(0) != '#') {
                    number = w.chars().filter(c -> c == text.charAt(0)).count();
                }
                int digit = text.charAt(2) - '0';
                switch (text.charAt(1)) {
                    case '<': return number < digit;
                    case '=': return number == digit;
                    default: return number > digit;
                }
        }
    }

    // ---- insertions and the language

    private List<Insertion> insertionsOf(Grammar g, String w) {
        List<Insertion> all = new ArrayList<>();
        for (int c = 0; c < g.contexts.size(); c++) {
            Context context = g.contexts.get(c);
            List<int[]> fulfilled = new ArrayList<>();
            for (int s = 0; s <= w.length(); s++) {
                for (int e = s; e <= w.length(); e++) {
                    if (holds(context.selector, w.substring(s, e))) {
                        fulfilled.add(new int[] {s, e});
                    }
                }
            }
            for (int[] factor : fulfilled) {
                String result = w.substring(0, factor[0]) + context.left + w.substring(factor[0], factor[1]) + context.right + w.substring(factor[1]);
                if (isSelected(g.mode, w, factor, fulfilled) && result.length() <= g.limit) {
                    all.add(new Insertion(c, factor[0], factor[1], result));
                }
            }
        }
        return all;
    }

    private static boolean isSelected(int mode, String w, int[] factor, List<int[]> fulfilled) {
        switch (mode) {
            case 0: return factor[0] == 0 && factor[1] == w.length();
            case 1: return true;
            case 2: return fulfilled.stream().noneMatch(other -> other != factor && contained(factor, other));
            case 3: return fulfilled.stream().noneMatch(other -> other != factor && contained(other, factor));
            default: return fulfilled.stream().allMatch(other -> factor[0] <= other[0]);
        }
    }

    private static boolean contained(int[] inner, int[] outer) {
        return outer[0] <= inner[0] && inner[1] <= outer[1];
    }

    private TreeSet<String> languageOf(Grammar g) {
        TreeSet<String> words = new TreeSet<>(ORDER);
        List<String> open = new ArrayList<>();
        for (String axiom : g.axioms) {
            if (axiom.length() <= g.limit) {
                open.add(axiom);
            }
        }
        while (!open.isEmpty() && words.size() <= 300) {
            String next = open.remove(open.size() - 1);
            if (words.add(next)) {
                for (Insertion insertion : insertionsOf(g, next)) {
                    open.add(insertion.result);
                }
            }
        }
        return words;
    }

    private TreeSet<String> language() {
        if (known == null) {
            known = languageOf(grammar);
        }
        if (known.size() > 300) {
            throw new UnsupportedOperationException();
        }
        return known;
    }

    int size() {
        return language().size();
    }

    int sizeOf(int length) {
        if (length < 0 || length > grammar.limit) {
            throw new IllegalArgumentException();
        }
        return (int) language().stream().filter(w -> w.length() == length).count();
    }

    double density(int length) {
        return (double) sizeOf(length) / Math.pow(3, length);
    }

    boolean isUsed(int context) {
        index(context, grammar.contexts.size());
        return language().stream().anyMatch(w -> insertionsOf(grammar, w).stream().anyMatch(i -> i.context == context));
    }

    boolean isRedundant(int context) {
        index(context, grammar.contexts.size());
        return language().equals(languageOf(without(context)));
    }

    int minimalContexts() {
        TreeSet<String> whole = language();
        int best = -1;
        for (int mask = (1 << grammar.contexts.size()) - 1; mask >= 0; mask--) {
            List<Context> chosen = new ArrayList<>();
            for (int c = 0; c < grammar.contexts.size(); c++) {
                if ((mask >> c & 1) == 1) {
                    chosen.add(grammar.contexts.get(c));
                }
            }
            boolean smaller = best < 0 || Integer.bitCount(mask) <= Integer.bitCount(best);
            if (smaller && languageOf(new Grammar(grammar.axioms, chosen, grammar.mode, grammar.limit)).equals(whole)) {
                best = mask;
            }
        }
        return best;
    }

    boolean canFollow(int first, int second) {
        index(first, grammar.contexts.size());
        index(second, grammar.contexts.size());
        for (String x : language()) {
            for (Insertion i : insertionsOf(grammar, x)) {
                if (i.context == first && insertionsOf(grammar, i.result).stream().anyMatch(j -> j.context == second)) {
                    return true;
                }
            }
        }
        return false;
    }

    int shortestLoop(int context) {
        index(context, grammar.contexts.size());
        language();
        int n = grammar.contexts.size();
        int[][] distance = new int[n][n];
        for (int i = 0; i < n; i++) {
            for (int j = 0; j < n; j++) {
                distance[i][j] = canFollow(i, j) ? 1 : 1000;
            }
        }
        for (int k = 0; k < n; k++) {
            for (int i = 0; i < n; i++) {
                for (int j = 0; j < n; j++) {
                    distance[i][j] = Math.min(distance[i][j], distance[i][k] + distance[k][j]);
                }
            }
        }
        if (distance[context][context] >= 1000) {
            throw new NoSuchElementException();
        }
        return distance[context][context];
    }

    boolean isConfluent() {
        for (String w : language()) {
            if (formsOf(w).size() != 1) {
                return false;
            }
        }
        return true;
    }

    // ---- the current word

    void clearWord() {
        word = "";
    }

    void addLetter(char letter) {
        if ("abc".indexOf(letter) < 0) {
            throw new IllegalArgumentException();
        }
        if (word.length() == 9) {
            throw new IllegalStateException();
        }
        word += letter;
    }

    void takeAxiom(int axiom) {
        index(axiom, grammar.axioms.size());
        word = grammar.axioms.get(axiom);
    }

    void takeWord(int index) {
        index(index, language().size());
        word = new ArrayList<>(language()).get(index);
    }

    int wordLength() {
        return word.length();
    }

    char letterAt(int position) {
        index(position, word.length());
        return word.charAt(position);
    }

    boolean isGenerated() {
        return language().contains(word);
    }

    int rank() {
        if (!language().contains(word)) {
            throw new NoSuchElementException();
        }
        return language().headSet(word).size();
    }

    // ---- derivations: each word's best one is chosen among those of all words before it

    record Derivation(String axiom, List<Insertion> steps) implements Comparable<Derivation> {
        @Override
        public int compareTo(Derivation other) {
            if (steps.size() != other.steps.size()) {
                return Integer.compare(steps.size(), other.steps.size());
            }
            int order = ORDER.compare(axiom, other.axiom);
            for (int i = 0; i < steps.size() && order == 0; i++) {
                Insertion a = steps.get(i);
                Insertion b = other.steps.get(i);
                order = Integer.compare(a.context * 100 + a.s * 10 + a.e, b.context * 100 + b.s * 10 + b.e);
            }
            return order;
        }
    }

    private Derivation best() {
        rank();
        Map<String, Derivation> best = new HashMap<>();
        for (String w : language()) {
            if (grammar.axioms.contains(w)) {
                best.put(w, new Derivation(w, List.of()));
            }
        }
        for (String w : language()) {
            for (Insertion i : insertionsOf(grammar, w)) {
                List<Insertion> steps = new ArrayList<>(best.get(w).steps);
                steps.add(i);
                Derivation found = new Derivation(best.get(w).axiom, steps);
                Derivation old = best.get(i.result);
                if (old == null || found.compareTo(old) < 0) {
                    best.put(i.result, found);
                }
            }
        }
        return best.get(word);
    }

    int derivationLength() {
        return best().steps.size();
    }

    int derivationStep(int step, int part) {
        if (part < 0 || part > 2) {
            throw new IllegalArgumentException();
        }
        List<Insertion> steps = best().steps;
        index(step, steps.size());
        Insertion i = steps.get(step);
        return part == 0 ? i.context : part == 1 ? i.s : i.e;
    }

    long derivations() {
        if (!isGenerated()) {
            return 0;
        }
        return countBackwards(word, new HashMap<>());
    }

    private long countBackwards(String w, Map<String, Long> counted) {
        Long old = counted.get(w);
        if (old != null) {
            return old;
        }
        long number = grammar.axioms.contains(w) ? 1 : 0;
        for (Reduction r : reductionsOf(w)) {
            if (language().contains(r.word)) {
                number += countBackwards(r.word, counted);
            }
        }
        counted.put(w, number);
        return number;
    }

    int insertions() {
        return insertionsOf(grammar, word).size();
    }

    int insert(int index) {
        List<Insertion> all = insertionsOf(grammar, word);
        index(index, all.size());
        word = all.get(index).result;
        return all.get(index).context;
    }

    // ---- reductions: all words that are left when letters are taken away are tried

    private List<Reduction> reductionsOf(String w) {
        Set<String> left = new LinkedHashSet<>();
        for (int mask = 0; mask < 1 << w.length(); mask++) {
            StringBuilder rest = new StringBuilder();
            for (int i = 0; i < w.length(); i++) {
                if ((mask >> i & 1) == 1) {
                    rest.append(w.charAt(i));
                }
            }
            if (w.length() - rest.length() <= 6 && rest.length() < w.length()) {
                left.add(rest.toString());
            }
        }
        List<Reduction> all = new ArrayList<>();
        for (String x : left) {
            for (Insertion i : insertionsOf(grammar, x)) {
                if (i.result.equals(w)) {
                    all.add(new Reduction(x, i.context, i.s, i.e));
                }
            }
        }
        all.sort(Comparator.comparing(Reduction::word, ORDER).thenComparingInt(Reduction::context)
                .thenComparingInt(Reduction::s).thenComparingInt(Reduction::e));
        return all;
    }

    int reductions() {
        return reductionsOf(word).size();
    }

    int reduce(int index) {
        List<Reduction> all = reductionsOf(word);
        index(index, all.size());
        word = all.get(index).word;
        return all.get(index).context;
    }

    private Set<String> formsOf(String w) {
        Set<String> old = knownForms.get(w);
        if (old != null) {
            return old;
        }
        Set<String> forms = new TreeSet<>(ORDER);
        List<Reduction> all = reductionsOf(w);
        for (Reduction r : all) {
            forms.addAll(formsOf(r.word));
        }
        if (all.isEmpty()) {
            forms.add(w);
        }
        knownForms.put(w, forms);
        return forms;
    }

    int normalForms() {
        return formsOf(word).size();
    }

    void normalize(int index) {
        index(index, formsOf(word).size());
        word = new ArrayList<>(formsOf(word)).get(index);
    }

    // ---- arrays and snapshot

    void allocate(int slot, int type, int length) {
        index(slot, 3);
        if (type < 0 || type > 2 || length < 0 || length > 20) {
            throw new IllegalArgumentException();
        }
        types[slot] = type;
        arrays[slot] = new int[length];
    }

    private void filled(int slot) {
        if (types[slot] < 0) {
            throw new IllegalStateException();
        }
    }

    void store(int slot, int index, int value) {
        index(slot, 3);
        filled(slot);
        index(index, arrays[slot].length);
        arrays[slot][index] = types[slot] == 0 ? (byte) value : types[slot] == 1 ? (short) value : value;
    }

    int element(int slot, int index) {
        index(slot, 3);
        filled(slot);
        index(index, arrays[slot].length);
        return arrays[slot][index];
    }

    int compareSizes(int slot) {
        index(slot, 3);
        language();
        filled(slot);
        if (types[slot] != 2) {
            throw new IllegalArgumentException();
        }
        for (int length = 0; length <= grammar.limit; length++) {
            index(length, arrays[slot].length);
            if (arrays[slot][length] != sizeOf(length)) {
                return length;
            }
        }
        return -1;
    }

    void save() {
        savedGrammar = grammar;
        savedWord = word;
    }

    void restore() {
        if (savedGrammar == null) {
            throw new IllegalStateException();
        }
        change(savedGrammar);
        word = savedWord;
    }
}
