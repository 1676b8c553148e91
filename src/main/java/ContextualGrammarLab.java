import java.util.Arrays;
import java.util.NoSuchElementException;

/**
 * A laboratory for contextual grammars.
 *
 * <p>A word is held as its number in the order of all words (see {@link Words}), and an insertion together with a word
 * as one int (see {@link Moves}). So both are compared as numbers, and no call but define makes an object.
 */
public final class ContextualGrammarLab {
    private final DefinitionText text = new DefinitionText();
    private final Grammar grammar = new Grammar();
    private final Grammar savedGrammar = new Grammar();
    private final Language language = new Language();
    private final NormalForms forms = new NormalForms();
    private final int[] moves = new int[Grammar.MOST_MOVES];
    private final Slot[] slots = {new Slot(), new Slot(), new Slot()};
    private int fault = -1;
    private int word;
    private int savedWord;
    private boolean saved;
    private boolean languageStale = true;

    public ContextualGrammarLab() {
    }

    public void append(char c) throws IllegalStateException {
        if (!text.accept(c)) {
            throw new IllegalStateException("the text buffer is full");
        }
    }

    public int define() throws IllegalArgumentException, IllegalStateException {
        int kind = text.read();
        fault = kind == DefinitionText.FAULTY ? text.position : -1;
        text.empty();
        if (kind == DefinitionText.FAULTY) {
            throw new IllegalArgumentException("the text is no definition text");
        }
        if (kind == DefinitionText.AXIOM) {
            return defineAxiom(text.word);
        }
        if (kind == DefinitionText.CONTEXT) {
            return defineContext();
        }
        return replaceNumber(kind, text.number);
    }

    private int defineAxiom(int axiom) {
        if (grammar.axiomCount >= Grammar.MOST_AXIOMS || grammar.hasAxiom(axiom)) {
            throw new IllegalStateException("no place for this axiom");
        }
        grammar.putAxiom(axiom);
        grammarChanged();
        return grammar.axiomCount - 1;
    }

    private int defineContext() {
        if (grammar.contextCount >= Grammar.MOST_CONTEXTS) {
            throw new IllegalStateException("no place for this context");
        }
        grammar.putContext(new Context(text.left, text.right, new Selector(text.selectorProgram())));
        grammarChanged();
        return grammar.contextCount - 1;
    }

    private int replaceNumber(int kind, int number) {
        int previous;
        if (kind == DefinitionText.MODE) {
            previous = grammar.mode;
            grammar.mode = number;
        } else {
            previous = grammar.limit;
            grammar.limit = number;
        }
        grammarChanged();
        return previous;
    }

    private void grammarChanged() {
        languageStale = true;
        forms.forget();
    }

    public int faultPosition() {
        return fault;
    }

    public void removeAxiom(int axiom) throws IndexOutOfBoundsException {
        requireAxiom(axiom);
        grammar.dropAxiom(axiom);
        grammarChanged();
    }

    public void removeContext(int context) throws IndexOutOfBoundsException {
        requireContext(context);
        grammar.dropContext(context);
        grammarChanged();
    }

    public int count(int what) throws IllegalArgumentException {
        switch (what) {
            case 0:
                return grammar.axiomCount;
            case 1:
                return grammar.contextCount;
            case 2:
                return grammar.mode;
            case 3:
                return grammar.limit;
            case 4:
                return text.length;
            default:
                throw new IllegalArgumentException("there is no such number");
        }
    }

    public int size() throws UnsupportedOperationException {
        requireLanguage();
        return language.wordCount;
    }

    public int sizeOf(int length) throws IllegalArgumentException, UnsupportedOperationException {
        requireLength(length);
        requireLanguage();
        return language.wordsOfLength(length);
    }

    public double density(int length) throws IllegalArgumentException, UnsupportedOperationException {
        requireLength(length);
        requireLanguage();
        return (double) language.wordsOfLength(length) / (double) Words.power(length);
    }

    public boolean isUsed(int context) throws IndexOutOfBoundsException, UnsupportedOperationException {
        requireContext(context);
        requireLanguage();
        return (language.usedContexts & 1 << context) != 0;
    }

    public boolean isRedundant(int context) throws IndexOutOfBoundsException, UnsupportedOperationException {
        requireContext(context);
        requireLanguage();
        return language.isGeneratedBy(grammar.allContexts() & ~(1 << context));
    }

    public int minimalContexts() throws UnsupportedOperationException {
        requireLanguage();
        return language.smallestContextSet(grammar.allContexts());
    }

    public boolean canFollow(int first, int second) throws IndexOutOfBoundsException, UnsupportedOperationException {
        requireContext(first);
        requireContext(second);
        requireLanguage();
        return (language.followersOf(first) & 1 << second) != 0;
    }

    public int shortestLoop(int context)
            throws IndexOutOfBoundsException, UnsupportedOperationException, NoSuchElementException {
        requireContext(context);
        requireLanguage();
        int length = language.loopThrough(context);
        if (length == 0) {
            throw new NoSuchElementException("there is no loop through this context");
        }
        return length;
    }

    public boolean isConfluent() throws UnsupportedOperationException {
        requireLanguage();
        return forms.areSingle(grammar, language);
    }

    public void clearWord() {
        word = Words.EMPTY;
    }

    public void addLetter(char letter) throws IllegalArgumentException, IllegalStateException {
        if (letter < 'a' || letter > 'c') {
            throw new IllegalArgumentException("this is no letter");
        }
        if (Words.length(word) >= Words.MOST_LETTERS) {
            throw new IllegalStateException("the current word is full");
        }
        word = Words.extend(word, letter - 'a');
    }

    public void takeAxiom(int axiom) throws IndexOutOfBoundsException {
        requireAxiom(axiom);
        word = grammar.axiom(axiom);
    }

    public void takeWord(int index) throws UnsupportedOperationException, IndexOutOfBoundsException {
        requireLanguage();
        requireIndex(index, language.wordCount);
        word = language.wordAt(index);
    }

    public int wordLength() {
        return Words.length(word);
    }

    public char letterAt(int position) throws IndexOutOfBoundsException {
        int length = Words.length(word);
        requireIndex(position, length);
        return (char) ('a' + Words.factor(word, length, position, position + 1) - 1);
    }

    public boolean isGenerated() throws UnsupportedOperationException {
        requireLanguage();
        return language.placeOf(word) >= 0;
    }

    public int rank() throws UnsupportedOperationException, NoSuchElementException {
        requireLanguage();
        return requirePlace();
    }

    public int derivationLength() throws UnsupportedOperationException, NoSuchElementException {
        requireLanguage();
        return language.derivationSteps(requirePlace());
    }

    public int derivationStep(int step, int part)
            throws IllegalArgumentException, UnsupportedOperationException, NoSuchElementException,
            IndexOutOfBoundsException {
        if (part < 0 || part > 2) {
            throw new IllegalArgumentException("there is no such part");
        }
        requireLanguage();
        int place = requirePlace();
        requireIndex(step, language.derivationSteps(place));
        int move = language.derivationMove(place, step);
        if (part == 0) {
            return Moves.context(move);
        }
        return part == 1 ? Moves.start(move) : Moves.end(move);
    }

    public long derivations() throws UnsupportedOperationException {
        requireLanguage();
        return language.pathsTo(language.placeOf(word));
    }

    public int insertions() {
        return grammar.findInsertions(word, moves);
    }

    public int insert(int index) throws IndexOutOfBoundsException {
        requireIndex(index, grammar.findInsertions(word, moves));
        return makeMove(Rows.at(moves, index));
    }

    public int reductions() {
        return grammar.findReductions(word, moves);
    }

    public int reduce(int index) throws IndexOutOfBoundsException {
        int found = grammar.findReductions(word, moves);
        requireIndex(index, found);
        Rows.sort(moves, found);
        return makeMove(Rows.at(moves, index));
    }

    private int makeMove(int move) {
        word = Moves.word(move);
        return Moves.context(move);
    }

    public int normalForms() {
        forms.find(grammar, word);
        return forms.formCount;
    }

    public void normalize(int index) throws IndexOutOfBoundsException {
        forms.find(grammar, word);
        requireIndex(index, forms.formCount);
        word = forms.form(index);
    }

    public void allocate(int slot, int type, int length) throws IndexOutOfBoundsException, IllegalArgumentException {
        Slot chosen = requireSlot(slot);
        if (type < Slot.BYTES || type > Slot.INTS || length < 0 || length > Slot.MOST_ELEMENTS) {
            throw new IllegalArgumentException("there is no such array");
        }
        chosen.renew(type, length);
    }

    public void store(int slot, int index, int value) throws IndexOutOfBoundsException, IllegalStateException {
        Slot chosen = requireSlot(slot);
        requireFilled(chosen);
        requireIndex(index, chosen.length);
        chosen.setNarrowed(index, value);
    }

    public int element(int slot, int index) throws IndexOutOfBoundsException, IllegalStateException {
        Slot chosen = requireSlot(slot);
        requireFilled(chosen);
        requireIndex(index, chosen.length);
        return Rows.at(chosen.elements, index);
    }

    public int compareSizes(int slot)
            throws IndexOutOfBoundsException, UnsupportedOperationException, IllegalStateException,
            IllegalArgumentException {
        Slot chosen = requireSlot(slot);
        requireLanguage();
        requireFilled(chosen);
        if (chosen.type != Slot.INTS) {
            throw new IllegalArgumentException("the array holds no ints");
        }
        for (int length = 0; length <= grammar.limit; length++) {
            requireIndex(length, chosen.length);
            if (Rows.at(chosen.elements, length) != language.wordsOfLength(length)) {
                return length;
            }
        }
        return -1;
    }

    public void save() {
        savedGrammar.copyFrom(grammar);
        savedWord = word;
        saved = true;
    }

    public void restore() throws IllegalStateException {
        if (!saved) {
            throw new IllegalStateException("there is no snapshot");
        }
        grammar.copyFrom(savedGrammar);
        word = savedWord;
        grammarChanged();
    }

    private void requireAxiom(int axiom) {
        requireIndex(axiom, grammar.axiomCount);
    }

    private void requireContext(int context) {
        requireIndex(context, grammar.contextCount);
    }

    private void requireIndex(int index, int bound) {
        if (index < 0 || index >= bound) {
            throw new IndexOutOfBoundsException("there is nothing with this number");
        }
    }

    private void requireLength(int length) {
        if (length < 0 || length > grammar.limit) {
            throw new IllegalArgumentException("the length is out of range");
        }
    }

    private void requireLanguage() {
        if (languageStale) {
            language.build(grammar);
            languageStale = false;
        }
        if (language.tooLarge) {
            throw new UnsupportedOperationException("the language is too large");
        }
    }

    private int requirePlace() {
        int place = language.placeOf(word);
        if (place < 0) {
            throw new NoSuchElementException("the current word is not in the language");
        }
        return place;
    }

    private Slot requireSlot(int slot) {
        if (slot < 0 || slot >= slots.length) {
            throw new IndexOutOfBoundsException("there is no such slot");
        }
        return slots[slot];
    }

    private void requireFilled(Slot slot) {
        if (slot.type == Slot.NOTHING) {
            throw new IllegalStateException("the slot is empty");
        }
    }

    /** Reads and writes that stay inside their row, so that no index has to be tested where it is used. */
    private static final class Rows {
        static int at(int[] row, int index) {
            return index < 0 || index >= row.length ? 0 : row[index];
        }

        static void put(int[] row, int index, int value) {
            if (index >= 0 && index < row.length) {
                row[index] = value;
            }
        }

        static long at(long[] row, int index) {
            return index < 0 || index >= row.length ? 0L : row[index];
        }

        static void put(long[] row, int index, long value) {
            if (index >= 0 && index < row.length) {
                row[index] = value;
            }
        }

        /** Puts a value into its place among the first values of a row, which are in ascending order. */
        static void putInOrder(int[] row, int sorted, int value) {
            int place = sorted;
            for (int i = sorted - 1; i >= 0 && at(row, i) > value; i--) {
                put(row, i + 1, at(row, i));
                place = i;
            }
            put(row, place, value);
        }

        static void sort(int[] row, int length) {
            for (int i = 1; i < length; i++) {
                putInOrder(row, i, at(row, i));
            }
        }
    }

    /**
     * Words as numbers. A word is its number in the order of all words: the empty word is 0, then come a, b, c, aa, ab
     * and so on. A letter behind a word w gives 3 * w + 1 + letter, where a, b and c are 0, 1 and 2.
     */
    private static final class Words {
        static final int EMPTY = 0;
        static final int MOST_LETTERS = 9;
        /** How many words of at most 9 letters there are. */
        static final int ALL = 29524;
        private static final int[] POWERS = {1, 3, 9, 27, 81, 243, 729, 2187, 6561, 19683};

        static int power(int exponent) {
            return exponent < 0 || exponent >= POWERS.length ? 1 : POWERS[exponent];
        }

        static int length(int word) {
            int length = 0;
            int firstLonger = 1;
            for (int n = 1; n <= MOST_LETTERS && word >= firstLonger; n++) {
                length = n;
                firstLonger = 3 * firstLonger + 1;
            }
            return length;
        }

        static int extend(int word, int letter) {
            return 3 * word + 1 + letter;
        }

        static int join(int front, int back, int backLength) {
            return front * power(backLength) + back;
        }

        /** The factor from s to e of a word with the given length. */
        static int factor(int word, int length, int s, int e) {
            int behind = power(length - e);
            int inside = power(e - s);
            if (behind < 1 || inside < 1) {
                return EMPTY;
            }
            int front = (word - behind / 2) / behind;
            int firstInside = inside / 2;
            return (front - firstInside) % inside + firstInside;
        }
    }

    /** An insertion and a word in one int. Its order is that of the words first and then that of the insertions. */
    private static final class Moves {
        static int of(int word, int context, int s, int e) {
            return word << 11 | context << 8 | s << 4 | e;
        }

        static int withWord(int move, int word) {
            return word << 11 | move & 0x7FF;
        }

        static int word(int move) {
            return move >> 11;
        }

        static int context(int move) {
            return move >> 8 & 7;
        }

        static int start(int move) {
            return move >> 4 & 15;
        }

        static int end(int move) {
            return move & 15;
        }
    }

    /** The text buffer, and the reading of what it holds. */
    private static final class DefinitionText {
        static final int FAULTY = -1;
        static final int AXIOM = 0;
        static final int CONTEXT = 1;
        static final int MODE = 2;
        static final int LIMIT = 3;
        private static final int KINDS = 4;
        private static final int MOST_CHARACTERS = 60;
        private static final int MOST_OPEN = 6;

        private final char[] characters = new char[MOST_CHARACTERS];
        /** Every step of a selector comes from a character of its own, so the text's size is enough. */
        private final int[] program = new int[MOST_CHARACTERS];
        private int programLength;
        private int length;
        /** The index of the next character; after reading a faulty text, the fault position. */
        private int position;
        private int word;
        private int left;
        private int right;
        private int number;

        boolean accept(char c) {
            if (length < 0 || length >= characters.length) {
                return false;
            }
            characters[length] = c;
            length++;
            return true;
        }

        void empty() {
            length = 0;
        }

        int[] selectorProgram() {
            return Arrays.copyOf(program, programLength < 0 ? 0 : programLength);
        }

        /** Returns the kind of the text, or FAULTY. */
        int read() {
            position = 0;
            programLength = 0;
            int kind = readKind();
            boolean complete;
            switch (kind) {
                case AXIOM:
                    complete = readAxiom();
                    break;
                case CONTEXT:
                    complete = readContext();
                    break;
                case MODE:
                    complete = readMode();
                    break;
                case LIMIT:
                    complete = readLimit();
                    break;
                default:
                    complete = false;
                    break;
            }
            return complete && position == length ? kind : FAULTY;
        }

        private static String kindName(int kind) {
            switch (kind) {
                case AXIOM:
                    return "axiom ";
                case CONTEXT:
                    return "context ";
                case MODE:
                    return "mode ";
                default:
                    return "limit ";
            }
        }

        private static String modeName(int mode) {
            switch (mode) {
                case Grammar.EXTERNAL:
                    return "external";
                case Grammar.INTERNAL:
                    return "internal";
                case Grammar.MAXIMAL:
                    return "maximal";
                case Grammar.MINIMAL:
                    return "minimal";
                default:
                    return "left";
            }
        }

        private int readKind() {
            int reached = 0;
            for (int kind = 0; kind < KINDS; kind++) {
                String name = kindName(kind);
                int same = sameCharacters(name);
                reached = Math.max(reached, same);
                if (same == name.length()) {
                    position = same;
                    return kind;
                }
            }
            position = reached;
            return FAULTY;
        }

        private boolean readMode() {
            int reached = 0;
            boolean complete = false;
            for (int mode = 0; mode < Grammar.MODES && !complete; mode++) {
                String name = modeName(mode);
                int same = sameCharacters(name);
                reached = Math.max(reached, same);
                if (same == name.length()) {
                    number = mode;
                    complete = true;
                }
            }
            position += reached;
            return complete;
        }

        /** How many characters of a name stand at the position. */
        private int sameCharacters(String name) {
            int same = 0;
            for (int i = 0; i < name.length() && characterAt(position + i) == name.charAt(i); i++) {
                same++;
            }
            return same;
        }

        /** The end is answered like a character 0, because no definition text has one. */
        private char characterAt(int index) {
            return index < 0 || index >= length || index >= characters.length ? (char) 0 : characters[index];
        }

        private boolean skip(char wanted) {
            if (characterAt(position) != wanted) {
                return false;
            }
            position++;
            return true;
        }

        private int readLetters(int most) {
            int letters = Words.EMPTY;
            for (int i = 0; i < most; i++) {
                char c = characterAt(position);
                if (c < 'a' || c > 'c') {
                    return letters;
                }
                letters = Words.extend(letters, c - 'a');
                position++;
            }
            return letters;
        }

        private boolean readAxiom() {
            word = readLetters(Grammar.MOST_AXIOM_LETTERS);
            return word != Words.EMPTY;
        }

        private boolean readLimit() {
            char c = characterAt(position);
            if (c < '1' || c > '9') {
                return false;
            }
            number = c - '0';
            position++;
            return true;
        }

        private boolean readContext() {
            left = readLetters(Grammar.MOST_PART_LETTERS);
            if (left == Words.EMPTY || !skip(',')) {
                return false;
            }
            right = readLetters(Grammar.MOST_PART_LETTERS);
            return skip(' ') && readAlternatives(0);
        }

        /** The S of the document's grammar; open tells how many "!" and "(" are open around it. */
        private boolean readAlternatives(int open) {
            boolean fine = readConjunction(open);
            for (int i = 0; i < MOST_CHARACTERS && fine && skip('|'); i++) {
                fine = readConjunction(open) && addStep(Selector.OR, 0);
            }
            return fine;
        }

        /** The T of the document's grammar. */
        private boolean readConjunction(int open) {
            boolean fine = readCondition(open);
            for (int i = 0; i < MOST_CHARACTERS && fine && skip('&'); i++) {
                fine = readCondition(open) && addStep(Selector.AND, 0);
            }
            return fine;
        }

        /** The F of the document's grammar. */
        private boolean readCondition(int open) {
            switch (characterAt(position)) {
                case '!':
                    return open < MOST_OPEN && skip('!') && readCondition(open + 1) && addStep(Selector.NOT, 0);
                case '(':
                    return open < MOST_OPEN && skip('(') && readAlternatives(open + 1) && skip(')');
                case '*':
                    return skip('*') && addStep(Selector.ALWAYS, 0);
                case '^':
                    return skip('^') && addPattern(Selector.BEGINS, readLetters(Selector.MOST_PATTERN_LETTERS));
                case '$':
                    return skip('$') && addPattern(Selector.ENDS, readLetters(Selector.MOST_PATTERN_LETTERS));
                case '~':
                    return skip('~') && addPattern(Selector.CONTAINS, readLetters(Selector.MOST_PATTERN_LETTERS));
                default:
                    return readComparison();
            }
        }

        private boolean addPattern(int kind, int pattern) {
            return pattern != Words.EMPTY && addStep(kind, pattern);
        }

        private boolean readComparison() {
            char c = characterAt(position);
            if (c != '#' && (c < 'a' || c > 'c')) {
                return false;
            }
            position++;
            char relation = characterAt(position);
            if (relation < '<' || relation > '>') {
                return false;
            }
            position++;
            char digit = characterAt(position);
            if (digit < '0' || digit > '9') {
                return false;
            }
            position++;
            int counted = c == '#' ? Selector.LENGTH : c - 'a';
            return addStep(Selector.COMPARES, (counted * 3 + (relation - '<')) * 10 + (digit - '0'));
        }

        private boolean addStep(int kind, int argument) {
            if (programLength < 0 || programLength >= program.length) {
                return false;
            }
            program[programLength] = argument << Selector.KIND_BITS | kind;
            programLength++;
            return true;
        }
    }

    /**
     * A condition for words, as a program: its steps work on a stack of truth values, the operands before their
     * operator. Each word is tested once, for the same factors are asked for again and again.
     */
    private static final class Selector {
        static final int ALWAYS = 0;
        static final int NOT = 1;
        static final int AND = 2;
        static final int OR = 3;
        static final int COMPARES = 4;
        static final int BEGINS = 5;
        static final int ENDS = 6;
        static final int CONTAINS = 7;
        static final int KIND_BITS = 3;
        static final int LENGTH = 3;
        static final int MOST_PATTERN_LETTERS = 3;
        private static final int KIND_MASK = 7;

        private final int[] program;
        private final long[] known = new long[Words.ALL / 64 + 1];
        private final long[] fulfilled = new long[Words.ALL / 64 + 1];

        Selector(int[] program) {
            this.program = program;
        }

        boolean fulfils(int word) {
            int place = word >> 6;
            long bit = 1L << (word & 63);
            if ((Rows.at(known, place) & bit) == 0) {
                Rows.put(known, place, Rows.at(known, place) | bit);
                if (evaluate(word)) {
                    Rows.put(fulfilled, place, Rows.at(fulfilled, place) | bit);
                }
            }
            return (Rows.at(fulfilled, place) & bit) != 0;
        }

        /** The stack is the bits of a long, its top is bit 0: 6 open brackets keep it below 20 values. */
        private boolean evaluate(int word) {
            int length = Words.length(word);
            long stack = 0;
            for (int i = 0; i < program.length; i++) {
                int kind = program[i] & KIND_MASK;
                int argument = program[i] >> KIND_BITS;
                switch (kind) {
                    case ALWAYS:
                        stack = stack << 1 | 1;
                        break;
                    case NOT:
                        stack ^= 1;
                        break;
                    case AND:
                        stack = stack >> 1 & (stack | ~1L);
                        break;
                    case OR:
                        stack = stack >> 1 | stack & 1;
                        break;
                    case COMPARES:
                        stack = stack << 1 | (compares(argument, word, length) ? 1 : 0);
                        break;
                    default:
                        stack = stack << 1 | (matches(kind, argument, word, length) ? 1 : 0);
                        break;
                }
            }
            return (stack & 1) != 0;
        }

        private static boolean compares(int argument, int word, int length) {
            int counted = argument / 30;
            int relation = argument / 10 % 3;
            int digit = argument % 10;
            int number = counted == LENGTH ? length : 0;
            int rest = word;
            for (int i = 0; i < length; i++) {
                if ((rest - 1) % 3 == counted) {
                    number++;
                }
                rest = (rest - 1) / 3;
            }
            if (relation == 0) {
                return number < digit;
            }
            return relation == 1 ? number == digit : number > digit;
        }

        /** Compares the pattern with the last letters of the word, then of the word without its last letter, etc. */
        private static boolean matches(int kind, int pattern, int word, int length) {
            int size = pattern < 4 ? 1 : pattern < 13 ? 2 : 3;
            int power = size == 1 ? 3 : size == 2 ? 9 : 27;
            int nearest = kind == BEGINS ? length - size : 0;
            int farthest = kind == ENDS ? Math.min(0, length - size) : length - size;
            int rest = word;
            for (int dropped = 0; dropped <= farthest; dropped++) {
                if (dropped >= nearest && (rest - power / 2) % power + power / 2 == pattern) {
                    return true;
                }
                rest = (rest - 1) / 3;
            }
            return false;
        }
    }

    /** A context. It never changes, so that the grammar and its snapshot can share it. */
    private static final class Context {
        private final int left;
        private final int leftLength;
        private final int right;
        private final int rightLength;
        private final Selector selector;

        Context(int left, int right, Selector selector) {
            this.left = left;
            this.leftLength = Words.length(left);
            this.right = right;
            this.rightLength = Words.length(right);
            this.selector = selector;
        }

        int growth() {
            return leftLength + rightLength;
        }

        /** Whether the factor from s to e of a word is selected; a factor that rules it out goes from t to f. */
        boolean selects(int mode, int word, int length, int s, int e) {
            if (!selector.fulfils(Words.factor(word, length, s, e))) {
                return false;
            }
            if (mode == Grammar.EXTERNAL) {
                return s == 0 && e == length;
            }
            if (mode == Grammar.INTERNAL) {
                return true;
            }
            int lastStart = mode == Grammar.MINIMAL ? e : mode == Grammar.MAXIMAL ? s : s - 1;
            int lastEnd = mode == Grammar.MINIMAL ? e : length;
            for (int t = mode == Grammar.MINIMAL ? s : 0; t <= lastStart; t++) {
                for (int f = mode == Grammar.MAXIMAL ? e : t; f <= lastEnd; f++) {
                    if ((t != s || f != e) && selector.fulfils(Words.factor(word, length, t, f))) {
                        return false;
                    }
                }
            }
            return true;
        }

        int putAround(int word, int length, int s, int e) {
            int result = Words.join(Words.factor(word, length, 0, s), left, leftLength);
            result = Words.join(result, Words.factor(word, length, s, e), e - s);
            result = Words.join(result, right, rightLength);
            return Words.join(result, Words.factor(word, length, e, length), length - e);
        }

        boolean leftStandsAt(int word, int length, int s) {
            return Words.factor(word, length, s, s + leftLength) == left;
        }

        /** The word whose factor from s to e the context stands around, or -1 if the right part does not fit. */
        int takeAway(int word, int length, int s, int e) {
            int behind = e + growth();
            if (Words.factor(word, length, behind - rightLength, behind) != right) {
                return -1;
            }
            int front = Words.factor(word, length, 0, s);
            int result = Words.join(front, Words.factor(word, length, s + leftLength, e + leftLength), e - s);
            return Words.join(result, Words.factor(word, length, behind, length), length - behind);
        }
    }

    /** Axioms, contexts, mode and limit, and the insertions and reductions that they make possible. */
    private static final class Grammar {
        static final int EXTERNAL = 0;
        static final int INTERNAL = 1;
        static final int MAXIMAL = 2;
        static final int MINIMAL = 3;
        static final int MODES = 5;
        static final int MOST_AXIOMS = 6;
        static final int MOST_CONTEXTS = 5;
        static final int MOST_AXIOM_LETTERS = 8;
        static final int MOST_PART_LETTERS = 3;
        /** An insertion needs a word of at most 8 letters, which has 45 factors, for each context. */
        static final int MOST_MOVES = 45 * MOST_CONTEXTS;

        private final int[] axioms = new int[MOST_AXIOMS];
        private final Context[] contexts = new Context[MOST_CONTEXTS];
        private int axiomCount;
        private int contextCount;
        private int mode = INTERNAL;
        private int limit = 6;

        void copyFrom(Grammar other) {
            System.arraycopy(other.axioms, 0, axioms, 0, MOST_AXIOMS);
            for (int i = 0; i < contexts.length && i < other.contexts.length; i++) {
                contexts[i] = other.contexts[i];
            }
            axiomCount = other.axiomCount;
            contextCount = other.contextCount;
            mode = other.mode;
            limit = other.limit;
        }

        int axiom(int index) {
            return Rows.at(axioms, index);
        }

        boolean hasAxiom(int word) {
            for (int i = 0; i < axiomCount; i++) {
                if (axiom(i) == word) {
                    return true;
                }
            }
            return false;
        }

        void putAxiom(int word) {
            Rows.put(axioms, axiomCount, word);
            axiomCount++;
        }

        void dropAxiom(int axiom) {
            for (int i = axiom + 1; i < axiomCount; i++) {
                Rows.put(axioms, i - 1, axiom(i));
            }
            axiomCount--;
        }

        Context context(int index) {
            return index < 0 || index >= contexts.length ? null : contexts[index];
        }

        int allContexts() {
            return (1 << contextCount) - 1;
        }

        void putContext(Context context) {
            if (contextCount >= 0 && contextCount < contexts.length) {
                contexts[contextCount] = context;
                contextCount++;
            }
        }

        void dropContext(int context) {
            for (int i = context; i >= 0 && i < contexts.length; i++) {
                contexts[i] = context(i + 1);
            }
            contextCount--;
        }

        /** Writes the insertions that are possible in a word, each with its result, in their order; tells how many. */
        int findInsertions(int word, int[] moves) {
            int length = Words.length(word);
            int found = 0;
            for (int c = 0; c < contextCount; c++) {
                Context context = context(c);
                if (context == null || length + context.growth() > limit) {
                    continue;
                }
                for (int s = 0; s <= length; s++) {
                    for (int e = s; e <= length; e++) {
                        if (context.selects(mode, word, length, s, e)) {
                            Rows.put(moves, found, Moves.of(context.putAround(word, length, s, e), c, s, e));
                            found++;
                        }
                    }
                }
            }
            return found;
        }

        /** Writes the reductions of a word, each with the word that it leads to, in any order; tells how many. */
        int findReductions(int word, int[] moves) {
            int length = Words.length(word);
            int found = 0;
            for (int c = 0; c < contextCount && length <= limit; c++) {
                Context context = context(c);
                if (context == null) {
                    continue;
                }
                int rest = length - context.growth();
                for (int s = 0; s <= rest; s++) {
                    if (!context.leftStandsAt(word, length, s)) {
                        continue;
                    }
                    for (int e = s; e <= rest; e++) {
                        int reduced = context.takeAway(word, length, s, e);
                        if (reduced >= 0 && context.selects(mode, reduced, rest, s, e)) {
                            Rows.put(moves, found, Moves.of(reduced, c, s, e));
                            found++;
                        }
                    }
                }
            }
            return found;
        }
    }

    /**
     * The language of a grammar. Its insertions are its edges: each leads from a word to a longer one, so a walk over
     * the words in their order meets every word after all words from which it can be made.
     */
    private static final class Language {
        private static final int MOST_WORDS = 300;

        private final int[] words = new int[MOST_WORDS];
        /** By word: 1 plus its number in the language, or 0. */
        private final int[] places = new int[Words.ALL];
        /** The edges of the word with number i are those from firstEdges[i] on; their words are numbers, too. */
        private final int[] edges = new int[MOST_WORDS * Grammar.MOST_MOVES];
        private final int[] firstEdges = new int[MOST_WORDS + 1];
        private final int[] moves = new int[Grammar.MOST_MOVES];
        /** By number of the word: 1 for an axiom. */
        private final int[] isAxiom = new int[MOST_WORDS];
        private final int[] reached = new int[MOST_WORDS];
        private final int[] queue = new int[MOST_WORDS];
        /** The best derivation of each word: how many insertions, the last of them, and the word before it. */
        private final int[] steps = new int[MOST_WORDS];
        private final int[] lastMoves = new int[MOST_WORDS];
        private final int[] wordsBefore = new int[MOST_WORDS];
        private final long[] paths = new long[MOST_WORDS];
        private final int[] followers = new int[Grammar.MOST_CONTEXTS];
        private int wordCount;
        private int edgeCount;
        private boolean tooLarge;
        private int usedContexts;
        private int smallestSet;

        void build(Grammar grammar) {
            forget();
            for (int i = 0; i < grammar.axiomCount; i++) {
                if (Words.length(grammar.axiom(i)) <= grammar.limit) {
                    addWord(grammar.axiom(i));
                }
            }
            for (int i = 0; i < wordCount && i < MOST_WORDS && !tooLarge; i++) {
                addResults(grammar.findInsertions(wordAt(i), moves));
                Rows.put(firstEdges, i + 1, edgeCount);
            }
            if (!tooLarge) {
                numberWords(grammar);
                countPaths();
                findFollowers();
                findBestDerivations();
            }
        }

        private void forget() {
            for (int i = 0; i < wordCount; i++) {
                Rows.put(places, wordAt(i), 0);
            }
            Arrays.fill(isAxiom, 0);
            Arrays.fill(followers, 0);
            wordCount = 0;
            edgeCount = 0;
            tooLarge = false;
            usedContexts = 0;
            smallestSet = -1;
        }

        /** While the words are collected, a place only tells that the word is there. */
        private void addWord(int word) {
            if (Rows.at(places, word) != 0) {
                return;
            }
            if (wordCount >= MOST_WORDS) {
                tooLarge = true;
                return;
            }
            Rows.put(places, word, 1);
            Rows.putInOrder(words, wordCount, word);
            wordCount++;
        }

        private void addResults(int found) {
            for (int i = 0; i < found; i++) {
                int move = Rows.at(moves, i);
                addWord(Moves.word(move));
                Rows.put(edges, edgeCount, move);
                edgeCount++;
            }
        }

        private void numberWords(Grammar grammar) {
            for (int i = 0; i < wordCount; i++) {
                Rows.put(places, wordAt(i), i + 1);
            }
            for (int k = 0; k < edgeCount; k++) {
                int edge = Rows.at(edges, k);
                Rows.put(edges, k, Moves.withWord(edge, placeOf(Moves.word(edge))));
            }
            for (int i = 0; i < grammar.axiomCount; i++) {
                Rows.put(isAxiom, placeOf(grammar.axiom(i)), 1);
            }
        }

        private void countPaths() {
            for (int i = 0; i < wordCount; i++) {
                Rows.put(paths, i, (long) Rows.at(isAxiom, i));
            }
            for (int i = 0; i < wordCount; i++) {
                for (int k = Rows.at(firstEdges, i); k < Rows.at(firstEdges, i + 1); k++) {
                    int next = Moves.word(Rows.at(edges, k));
                    Rows.put(paths, next, Rows.at(paths, next) + Rows.at(paths, i));
                }
            }
        }

        /** Here reached holds, for each word, the set of the contexts by which it is made. */
        private void findFollowers() {
            Arrays.fill(reached, 0);
            for (int i = 0; i < wordCount; i++) {
                int leaving = 0;
                for (int k = Rows.at(firstEdges, i); k < Rows.at(firstEdges, i + 1); k++) {
                    int edge = Rows.at(edges, k);
                    int bit = 1 << Moves.context(edge);
                    leaving |= bit;
                    Rows.put(reached, Moves.word(edge), Rows.at(reached, Moves.word(edge)) | bit);
                }
                usedContexts |= leaving;
                for (int c = 0; c < followers.length; c++) {
                    if ((Rows.at(reached, i) & 1 << c) != 0) {
                        followers[c] |= leaving;
                    }
                }
            }
        }

        /**
         * A breadth-first walk. Its queue begins with the axioms in their order, and every word sends its edges in
         * their order; so the first arrival at a word is by its best derivation.
         */
        private void findBestDerivations() {
            int queued = 0;
            for (int i = 0; i < wordCount; i++) {
                Rows.put(steps, i, Rows.at(isAxiom, i) - 1);
                if (Rows.at(isAxiom, i) == 1) {
                    Rows.put(queue, queued, i);
                    queued++;
                }
            }
            for (int q = 0; q < queued && q < MOST_WORDS; q++) {
                int i = Rows.at(queue, q);
                for (int k = Rows.at(firstEdges, i); k < Rows.at(firstEdges, i + 1); k++) {
                    int edge = Rows.at(edges, k);
                    int next = Moves.word(edge);
                    if (Rows.at(steps, next) < 0) {
                        Rows.put(steps, next, Rows.at(steps, i) + 1);
                        Rows.put(lastMoves, next, edge);
                        Rows.put(wordsBefore, next, i);
                        Rows.put(queue, queued, next);
                        queued++;
                    }
                }
            }
        }

        int wordAt(int index) {
            return Rows.at(words, index);
        }

        /** The number of a word in the language, or -1. */
        int placeOf(int word) {
            return Rows.at(places, word) - 1;
        }

        int wordsOfLength(int length) {
            int found = 0;
            for (int i = 0; i < wordCount; i++) {
                if (Words.length(wordAt(i)) == length) {
                    found++;
                }
            }
            return found;
        }

        /** Whether the contexts of a set make all words; a word that no earlier one has reached is never reached. */
        boolean isGeneratedBy(int contexts) {
            System.arraycopy(isAxiom, 0, reached, 0, MOST_WORDS);
            for (int i = 0; i < wordCount; i++) {
                if (Rows.at(reached, i) == 0) {
                    return false;
                }
                for (int k = Rows.at(firstEdges, i); k < Rows.at(firstEdges, i + 1); k++) {
                    int edge = Rows.at(edges, k);
                    if ((contexts & 1 << Moves.context(edge)) != 0) {
                        Rows.put(reached, Moves.word(edge), 1);
                    }
                }
            }
            return true;
        }

        int smallestContextSet(int all) {
            if (smallestSet >= 0) {
                return smallestSet;
            }
            smallestSet = all;
            for (int contexts = 0; contexts < all; contexts++) {
                if (Integer.bitCount(contexts) < Integer.bitCount(smallestSet) && isGeneratedBy(contexts)) {
                    smallestSet = contexts;
                }
            }
            return smallestSet;
        }

        int followersOf(int context) {
            return Rows.at(followers, context);
        }

        /** The length of the shortest loop through a context, or 0; it needs no context twice. */
        int loopThrough(int context) {
            int ends = followersOf(context);
            for (int length = 1; length <= Grammar.MOST_CONTEXTS; length++) {
                if ((ends & 1 << context) != 0) {
                    return length;
                }
                int next = 0;
                for (int c = 0; c < Grammar.MOST_CONTEXTS; c++) {
                    if ((ends & 1 << c) != 0) {
                        next |= followersOf(c);
                    }
                }
                ends = next;
            }
            return 0;
        }

        int derivationSteps(int place) {
            return Rows.at(steps, place);
        }

        int derivationMove(int place, int step) {
            int at = place;
            for (int i = derivationSteps(place) - 1; i > step; i--) {
                at = Rows.at(wordsBefore, at);
            }
            return Rows.at(lastMoves, at);
        }

        /** 0 for place -1, where no word is. */
        long pathsTo(int place) {
            return Rows.at(paths, place);
        }
    }

    /** The normal forms of words. What was found is kept until the grammar changes. */
    private static final class NormalForms {
        /** A word of 9 letters has at most 512 words that are made by leaving out letters. */
        private static final int MOST_FORMS = 512;
        private static final int SEVERAL = -1;
        private static final int NONE = -1;
        private static final int UNKNOWN = 0;
        private static final int YES = 1;
        private static final int NO = 2;

        private final int[] forms = new int[MOST_FORMS];
        private int formCount;
        private int foundFor = NONE;
        /** By word: the number of the search that met it last. */
        private final int[] visits = new int[Words.ALL];
        private int search;
        /** By word: 1 plus its only normal form, SEVERAL or UNKNOWN. */
        private final int[] onlyForms = new int[Words.ALL];
        private int single = UNKNOWN;
        /** A row for each level of the recursion: a reduction takes at least one of the 9 letters away. */
        private final int[][] moves = new int[Words.MOST_LETTERS + 1][Grammar.MOST_MOVES];

        void forget() {
            foundFor = NONE;
            single = UNKNOWN;
        }

        void find(Grammar grammar, int word) {
            if (foundFor == word) {
                return;
            }
            foundFor = word;
            formCount = 0;
            search++;
            visit(grammar, word, 0);
        }

        int form(int index) {
            return Rows.at(forms, index);
        }

        private void visit(Grammar grammar, int word, int depth) {
            if (depth < 0 || depth >= moves.length || Rows.at(visits, word) == search) {
                return;
            }
            Rows.put(visits, word, search);
            int[] row = moves[depth];
            int found = grammar.findReductions(word, row);
            for (int i = 0; i < found; i++) {
                visit(grammar, Moves.word(Rows.at(row, i)), depth + 1);
            }
            if (found == 0 && formCount < MOST_FORMS) {
                Rows.putInOrder(forms, formCount, word);
                formCount++;
            }
        }

        /** Whether every word of the language has exactly one normal form. */
        boolean areSingle(Grammar grammar, Language language) {
            if (single == UNKNOWN) {
                Arrays.fill(onlyForms, UNKNOWN);
                single = YES;
                for (int i = 0; i < language.wordCount && single == YES; i++) {
                    if (onlyForm(grammar, language.wordAt(i), 0) == SEVERAL) {
                        single = NO;
                    }
                }
            }
            return single == YES;
        }

        private int onlyForm(Grammar grammar, int word, int depth) {
            int known = Rows.at(onlyForms, word);
            if (known != UNKNOWN || depth < 0 || depth >= moves.length) {
                return known;
            }
            int[] row = moves[depth];
            int found = grammar.findReductions(word, row);
            int form = found == 0 ? word + 1 : UNKNOWN;
            for (int i = 0; i < found && form != SEVERAL; i++) {
                int next = onlyForm(grammar, Moves.word(Rows.at(row, i)), depth + 1);
                form = form == UNKNOWN || form == next ? next : SEVERAL;
            }
            Rows.put(onlyForms, word, form);
            return form;
        }
    }

    /** An array of the document. Its row is made once and used for every array that the slot holds. */
    private static final class Slot {
        static final int NOTHING = -1;
        static final int BYTES = 0;
        static final int INTS = 2;
        static final int MOST_ELEMENTS = 20;

        private final int[] elements = new int[MOST_ELEMENTS];
        private int type = NOTHING;
        private int length;

        void renew(int newType, int newLength) {
            type = newType;
            length = newLength;
            Arrays.fill(elements, 0);
        }

        void setNarrowed(int index, int value) {
            int narrowed = value;
            if (type == BYTES) {
                narrowed = (byte) value;
            } else if (type != INTS) {
                narrowed = (short) value;
            }
            Rows.put(elements, index, narrowed);
        }
    }
}
