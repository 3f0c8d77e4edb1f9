import java.util.Arrays;

/** A workbench for alternating finite automata over at most 6 states and 3 letters. */
public final class AlternatingAutomata {
    public static final int NONE = -1;
    public static final int BAD_ARGUMENT = -2;
    public static final int FULL = -3;
    public static final int MISMATCH = -4;
    public static final int NOTHING = -5;

    private static final int SLOTS = 3;
    private static final int MAX_STATES = 6;
    private static final int MAX_LETTERS = 3;
    private static final int MAX_WEIGHT = 9;
    private static final int MAX_NODES = 40;
    private static final int MAX_TEXT = 60;
    private static final int MAX_CODE = 127;
    private static final int MAX_WORD = 12;
    private static final int MAX_COUNTED = 20;
    /** Each of the nodes gives one character and, at worst, a pair of parentheses. */
    private static final int MAX_PRINTED = 3 * MAX_NODES;
    /** All sets of 6 states; a long has a bit for each of them. */
    private static final int SETS = 64;
    private static final int PAIRS = SETS * SETS;
    /** Two deterministic automata of 64 states that differ do so on a word of at most 126 letters. */
    private static final int MAX_FOUND = 2 * SETS;
    private static final int OPPONENT_WINS = 10000;
    private static final int SYNTAX_ERROR = -100;
    private static final int INITIAL = -1;

    /** Nodes below MAX_STATES are states; AND has the highest number because it binds most tightly. */
    private static final int NODE_TRUE = 6;
    private static final int NODE_FALSE = 7;
    private static final int NODE_OR = 8;
    private static final int NODE_AND = 9;
    private static final int OPEN = 0;

    /** For each state the sets that contain it, as bits of a long. */
    private static final long[] CONTAINING = {
        0xAAAAAAAAAAAAAAAAL, 0xCCCCCCCCCCCCCCCCL, 0xF0F0F0F0F0F0F0F0L,
        0xFF00FF00FF00FF00L, 0xFFFF0000FFFF0000L, 0xFFFFFFFF00000000L
    };

    private final Automaton[] slots = new Automaton[SLOTS];
    private final Automaton[] snapshot = new Automaton[SLOTS];
    private final Automaton combined = new Automaton();
    private final FormulaText text = new FormulaText();
    private final FormulaPrinter printer = new FormulaPrinter();
    private final Word word = new Word(MAX_WORD);
    private final Word found = new Word(MAX_FOUND);
    private final Game game = new Game();
    private final ReverseAutomaton reverseOne = new ReverseAutomaton();
    private final ReverseAutomaton reverseOther = new ReverseAutomaton();
    private final CheapestSearch cheapest = new CheapestSearch();
    private final PairSearch pairs = new PairSearch();
    private boolean hasSnapshot = false;
    private int costOfFound = 0;

    public AlternatingAutomata() {
        for (int slot = 0; slot < SLOTS; slot++) {
            slots[slot] = new Automaton();
            snapshot[slot] = new Automaton();
        }
    }

    public int create(int slot, int states, int letters) {
        Automaton automaton = automatonIn(slot);
        if (automaton == null || !isWithin(states, 1, MAX_STATES) || !isWithin(letters, 1, MAX_LETTERS)) {
            return BAD_ARGUMENT;
        }
        int before = automaton.states;
        automaton.clear(states, letters);
        return before;
    }

    public int setFinal(int slot, int state, int isFinal) {
        Automaton automaton = automatonIn(slot);
        if (automaton == null || !automaton.hasState(state) || !isWithin(isFinal, 0, 1)) {
            return BAD_ARGUMENT;
        }
        int others = automaton.finals & ~(1 << state);
        automaton.finals = others | isFinal << state;
        return automaton.finals;
    }

    public int setWeight(int slot, int letter, int weight) {
        Automaton automaton = automatonIn(slot);
        if (automaton == null || !automaton.hasLetter(letter) || !isWithin(weight, 1, MAX_WEIGHT)) {
            return BAD_ARGUMENT;
        }
        int before = automaton.weights[letter];
        automaton.weights[letter] = weight;
        return before;
    }

    public int append(int code, int count) {
        if (!isWithin(code, 0, MAX_CODE) || !isWithin(count, 1, MAX_TEXT)) {
            return BAD_ARGUMENT;
        }
        if (text.length + count > MAX_TEXT) {
            return FULL;
        }
        text.add((char) code, count);
        return text.length;
    }

    public int setInitial(int slot) {
        return readFormula(slot, INITIAL, 0);
    }

    public int setTransition(int slot, int state, int letter) {
        if (state == INITIAL) {
            text.length = 0;
            return BAD_ARGUMENT;
        }
        return readFormula(slot, state, letter);
    }

    public int property(int slot, int what) {
        Automaton automaton = automatonIn(slot);
        if (automaton == null || !isWithin(what, 0, 5)) {
            return BAD_ARGUMENT;
        }
        switch (what) {
            case 0:
                return automaton.states;
            case 1:
                return automaton.letters;
            case 2:
                return automaton.finals;
            default:
                return automaton.hasLetter(what - 3) ? automaton.weights[what - 3] : NONE;
        }
    }

    public int print(int slot, int state, int letter) {
        Formula formula = formulaIn(slot, state, letter);
        if (formula == null) {
            return BAD_ARGUMENT;
        }
        printer.write(formula);
        return printer.length;
    }

    public int printed(int index) {
        return index >= 0 && index < printer.length ? printer.signs[index] : NONE;
    }

    public int isSatisfied(int slot, int state, int letter, int set) {
        Automaton automaton = automatonIn(slot);
        Formula formula = formulaIn(slot, state, letter);
        if (automaton == null || formula == null || !automaton.hasSet(set)) {
            return BAD_ARGUMENT;
        }
        return formula.holdsIn(set) ? 1 : 0;
    }

    public int model(int slot, int state, int letter, int position) {
        Formula formula = formulaIn(slot, state, letter);
        if (formula == null || position < -1) {
            return BAD_ARGUMENT;
        }
        long models = minimalSets(formula.table);
        return position == -1 ? Long.bitCount(models) : setAtPosition(models, position);
    }

    public int push(int letter) {
        if (!isWithin(letter, 0, MAX_LETTERS - 1)) {
            return BAD_ARGUMENT;
        }
        if (word.length >= MAX_WORD) {
            return FULL;
        }
        word.add(letter);
        return word.length;
    }

    public int clearWord() {
        int before = word.length;
        word.length = 0;
        return before;
    }

    public int acceptingStates(int slot, int start) {
        Automaton automaton = automatonIn(slot);
        if (automaton == null || !isWithin(start, 0, word.length)) {
            return BAD_ARGUMENT;
        }
        return word.fits(automaton) ? word.acceptedFrom(automaton, start) : MISMATCH;
    }

    public int accepts(int slot) {
        Automaton automaton = automatonIn(slot);
        if (automaton == null) {
            return BAD_ARGUMENT;
        }
        if (!word.fits(automaton)) {
            return MISMATCH;
        }
        return automaton.initial.holdsIn(word.acceptedFrom(automaton, 0)) ? 1 : 0;
    }

    public int rank(int slot, int start, int state) {
        Automaton automaton = automatonIn(slot);
        if (automaton == null || !automaton.hasState(state) || !isWithin(start, 0, word.length)) {
            return BAD_ARGUMENT;
        }
        if (!word.fits(automaton)) {
            return MISMATCH;
        }
        game.solve(automaton, word, start);
        return game.valueAt(start, state);
    }

    public int strategy(int slot, int start, int state) {
        Automaton automaton = automatonIn(slot);
        if (automaton == null || !automaton.hasState(state) || !isWithin(start, 0, word.length - 1)) {
            return BAD_ARGUMENT;
        }
        if (!word.fits(automaton)) {
            return MISMATCH;
        }
        game.solve(automaton, word, start);
        if (game.valueAt(start, state) >= OPPONENT_WINS) {
            return NONE;
        }
        return game.statesLedTo(automaton.move(state, word.letterAt(start)), start + 1);
    }

    public int reverseStep(int slot, int letter, int set) {
        Automaton automaton = automatonIn(slot);
        if (automaton == null || !automaton.hasLetter(letter) || !automaton.hasSet(set)) {
            return BAD_ARGUMENT;
        }
        return automaton.statesBefore(letter, set);
    }

    public int reverseStates(int slot) {
        Automaton automaton = automatonIn(slot);
        if (automaton == null) {
            return BAD_ARGUMENT;
        }
        reverseOne.load(automaton);
        return Long.bitCount(reverseOne.reachable());
    }

    public int reverseClasses(int slot) {
        Automaton automaton = automatonIn(slot);
        if (automaton == null) {
            return BAD_ARGUMENT;
        }
        reverseOne.load(automaton);
        return reverseOne.countClasses();
    }

    public int existentialStates(int slot) {
        Automaton automaton = automatonIn(slot);
        if (automaton == null) {
            return BAD_ARGUMENT;
        }
        return Long.bitCount(automaton.existentialReach());
    }

    public int existentialSets(int slot, int accepting) {
        Automaton automaton = automatonIn(slot);
        if (automaton == null || !isWithin(accepting, 0, 1)) {
            return BAD_ARGUMENT;
        }
        if (!word.fits(automaton)) {
            return MISMATCH;
        }
        long sets = minimalSets(automaton.initial.table);
        for (int i = 0; i < word.length; i++) {
            sets = automaton.existentialNext(sets, word.letterAt(i));
        }
        return Long.bitCount(accepting == 1 ? sets & automaton.acceptingSets() : sets);
    }

    public int relevantStates(int slot) {
        Automaton automaton = automatonIn(slot);
        return automaton == null ? BAD_ARGUMENT : automaton.statesThatMatter();
    }

    public int findCheapest(int slot) {
        Automaton automaton = automatonIn(slot);
        if (automaton == null) {
            return BAD_ARGUMENT;
        }
        reverseOne.load(automaton);
        if (!cheapest.search(reverseOne, automaton.weights)) {
            return NONE;
        }
        cheapest.spell(reverseOne, automaton.weights, found);
        costOfFound = found.costIn(automaton);
        return found.length;
    }

    public int findDifference(int one, int other) {
        Automaton first = automatonIn(one);
        Automaton second = automatonIn(other);
        if (first == null || second == null) {
            return BAD_ARGUMENT;
        }
        if (first.letters != second.letters) {
            return MISMATCH;
        }
        if (!searchPairs(first, second, false)) {
            return NONE;
        }
        pairs.spell(reverseOne, reverseOther, found);
        costOfFound = found.costIn(first);
        return found.length;
    }

    public int foundLetter(int index) {
        return index >= 0 && index < found.length ? found.letterAt(index) : NONE;
    }

    public int foundCost() {
        return costOfFound;
    }

    public int isContained(int one, int other) {
        Automaton first = automatonIn(one);
        Automaton second = automatonIn(other);
        if (first == null || second == null) {
            return BAD_ARGUMENT;
        }
        if (first.letters != second.letters) {
            return MISMATCH;
        }
        return searchPairs(first, second, true) ? 0 : 1;
    }

    public long countWords(int slot, int length) {
        Automaton automaton = automatonIn(slot);
        if (automaton == null || !isWithin(length, 0, MAX_COUNTED)) {
            return -1L;
        }
        reverseOne.load(automaton);
        return reverseOne.countAccepted(length);
    }

    public int dualize(int slot, int target) {
        Automaton automaton = automatonIn(slot);
        Automaton dual = automatonIn(target);
        if (automaton == null || dual == null) {
            return BAD_ARGUMENT;
        }
        dual.becomeDual(automaton);
        return dual.finals;
    }

    public int combine(int one, int other, int target, int operation) {
        Automaton first = automatonIn(one);
        Automaton second = automatonIn(other);
        Automaton result = automatonIn(target);
        if (first == null || second == null || result == null || !isWithin(operation, 0, 1)) {
            return BAD_ARGUMENT;
        }
        if (first.letters != second.letters) {
            return MISMATCH;
        }
        if (first.states + second.states > MAX_STATES
                || first.initial.size + second.initial.size + 1 > MAX_NODES) {
            return FULL;
        }
        // The target may be one of both, so the result grows elsewhere.
        combined.becomeJoin(first, second, operation == 0 ? NODE_OR : NODE_AND);
        result.copy(combined);
        return result.states;
    }

    public int save() {
        hasSnapshot = true;
        return copyAll(slots, snapshot);
    }

    public int restore() {
        return hasSnapshot ? copyAll(snapshot, slots) : NOTHING;
    }

    private static boolean isWithin(int value, int least, int most) {
        return value >= least && value <= most;
    }

    private Automaton automatonIn(int slot) {
        return slot >= 0 && slot < SLOTS ? slots[slot] : null;
    }

    private Formula formulaIn(int slot, int state, int letter) {
        Automaton automaton = automatonIn(slot);
        return automaton == null ? null : automaton.formula(state, letter);
    }

    private int readFormula(int slot, int state, int letter) {
        Automaton automaton = automatonIn(slot);
        Formula formula = formulaIn(slot, state, letter);
        int answer = BAD_ARGUMENT;
        if (automaton != null && formula != null) {
            answer = text.readInto(formula, automaton.states);
        }
        text.length = 0;
        return answer;
    }

    private boolean searchPairs(Automaton first, Automaton second, boolean oneSided) {
        reverseOne.load(first);
        reverseOther.load(second);
        return pairs.search(reverseOne, reverseOther, oneSided);
    }

    private static int copyAll(Automaton[] from, Automaton[] to) {
        int states = 0;
        for (int slot = 0; slot < SLOTS; slot++) {
            to[slot].copy(from[slot]);
            states += to[slot].states;
        }
        return states;
    }

    private static boolean isIn(long sets, int set) {
        return (sets >>> set & 1L) != 0L;
    }

    /** Formulas are monotone, so a set is minimal if no set with just one state less satisfies. */
    private static long minimalSets(long table) {
        long larger = 0L;
        for (int state = 0; state < MAX_STATES; state++) {
            larger |= (table & ~CONTAINING[state]) << (1 << state);
        }
        return table & ~larger;
    }

    private static int setAtPosition(long sets, int position) {
        int left = position;
        for (int size = 0; size <= MAX_STATES; size++) {
            for (int set = 0; set < SETS; set++) {
                if (isIn(sets, set) && Integer.bitCount(set) == size) {
                    if (left == 0) {
                        return set;
                    }
                    left--;
                }
            }
        }
        return NONE;
    }

    private static long joinTables(int operator, long left, long right) {
        return operator == NODE_AND ? left & right : left | right;
    }

    /** A formula as its nodes in postfix order, so that no call needs recursion or new objects. */
    private static final class Formula {
        private final byte[] nodes = new byte[MAX_NODES];
        int size;
        /** Has bit S if the set S satisfies the formula. */
        long table;

        Formula() {
            becomeFalse();
        }

        void becomeFalse() {
            nodes[0] = NODE_FALSE;
            size = 1;
            table = 0L;
        }

        int nodeAt(int index) {
            return index >= 0 && index < size ? nodes[index] : NODE_FALSE;
        }

        boolean holdsIn(int set) {
            return isIn(table, set);
        }

        int statesInside() {
            int states = 0;
            for (int i = 0; i < size; i++) {
                if (nodes[i] < MAX_STATES) {
                    states |= 1 << nodes[i];
                }
            }
            return states;
        }

        void become(byte[] source, int count, long sourceTable) {
            if (count < 1 || count > MAX_NODES || count > source.length) {
                return;
            }
            System.arraycopy(source, 0, nodes, 0, count);
            size = count;
            table = sourceTable;
        }

        void copy(Formula other) {
            become(other.nodes, other.size, other.table);
        }

        void becomeDual(Formula other) {
            for (int i = 0; i < other.size; i++) {
                nodes[i] = dualNode(other.nodes[i]);
            }
            size = other.size;
            table = dualTable(other.table);
        }

        private static byte dualNode(byte node) {
            switch (node) {
                case NODE_TRUE:
                    return NODE_FALSE;
                case NODE_FALSE:
                    return NODE_TRUE;
                case NODE_AND:
                    return NODE_OR;
                case NODE_OR:
                    return NODE_AND;
                default:
                    return node;
            }
        }

        /** A set satisfies the dual if its complement does not satisfy the formula. */
        private static long dualTable(long source) {
            long dual = 0L;
            for (int set = 0; set < SETS; set++) {
                if (!isIn(source, SETS - 1 - set)) {
                    dual |= 1L << set;
                }
            }
            return dual;
        }

        void becomeShifted(Formula other, int offset) {
            size = 0;
            addShifted(other, offset);
            table = shiftedTable(other.table, offset);
        }

        void becomeJoin(Formula left, Formula right, int offset, int operator) {
            if (left.size + right.size + 1 > MAX_NODES) {
                return;
            }
            size = 0;
            addShifted(left, 0);
            addShifted(right, offset);
            nodes[size] = (byte) operator;
            size++;
            table = joinTables(operator, left.table, shiftedTable(right.table, offset));
        }

        private void addShifted(Formula other, int offset) {
            for (int i = 0; i < other.size && size < MAX_NODES; i++) {
                int node = other.nodes[i];
                nodes[size] = (byte) (node < MAX_STATES ? node + offset : node);
                size++;
            }
        }

        private static long shiftedTable(long source, int offset) {
            long shifted = 0L;
            for (int set = 0; set < SETS; set++) {
                if (isIn(source, set >> offset)) {
                    shifted |= 1L << set;
                }
            }
            return shifted;
        }
    }

    private static final class Automaton {
        final int[] weights = new int[MAX_LETTERS];
        final Formula initial = new Formula();
        private final Formula[] moves = new Formula[MAX_STATES * MAX_LETTERS];
        int states;
        int letters;
        int finals;

        Automaton() {
            for (int i = 0; i < moves.length; i++) {
                moves[i] = new Formula();
            }
            clear(1, 1);
        }

        void clear(int newStates, int newLetters) {
            states = newStates;
            letters = newLetters;
            finals = 0;
            initial.becomeFalse();
            for (int i = 0; i < moves.length; i++) {
                moves[i].becomeFalse();
            }
            Arrays.fill(weights, 1);
        }

        boolean hasState(int state) {
            return state >= 0 && state < states;
        }

        boolean hasLetter(int letter) {
            return letter >= 0 && letter < letters;
        }

        boolean hasSet(int set) {
            return set >= 0 && set < 1 << states;
        }

        /** The initial formula for state -1, or null if there is no such formula. */
        Formula formula(int state, int letter) {
            if (state == INITIAL) {
                return initial;
            }
            return hasState(state) && hasLetter(letter) ? move(state, letter) : null;
        }

        /** Only for a state and a letter that the automaton has; any other gives the initial formula. */
        Formula move(int state, int letter) {
            return hasState(state) && hasLetter(letter) ? moves[state * MAX_LETTERS + letter] : initial;
        }

        void copy(Automaton other) {
            takeShape(other, other.states);
            finals = other.finals;
            initial.copy(other.initial);
            copyMoves(other);
        }

        private void takeShape(Automaton other, int newStates) {
            states = newStates;
            letters = other.letters;
            System.arraycopy(other.weights, 0, weights, 0, MAX_LETTERS);
        }

        private void copyMoves(Automaton other) {
            for (int state = 0; state < other.states; state++) {
                for (int letter = 0; letter < letters; letter++) {
                    move(state, letter).copy(other.move(state, letter));
                }
            }
        }

        void becomeDual(Automaton other) {
            takeShape(other, other.states);
            finals = ~other.finals & (1 << states) - 1;
            initial.becomeDual(other.initial);
            for (int state = 0; state < states; state++) {
                for (int letter = 0; letter < letters; letter++) {
                    move(state, letter).becomeDual(other.move(state, letter));
                }
            }
        }

        void becomeJoin(Automaton first, Automaton second, int operator) {
            int offset = first.states;
            takeShape(first, offset + second.states);
            finals = first.finals | second.finals << offset;
            initial.becomeJoin(first.initial, second.initial, offset, operator);
            copyMoves(first);
            for (int state = 0; state < second.states; state++) {
                for (int letter = 0; letter < letters; letter++) {
                    move(offset + state, letter).becomeShifted(second.move(state, letter), offset);
                }
            }
        }

        /** The states from which a word is accepted if, without its first letter, it is from the set. */
        int statesBefore(int letter, int set) {
            int before = 0;
            for (int state = 0; state < states; state++) {
                if (move(state, letter).holdsIn(set)) {
                    before |= 1 << state;
                }
            }
            return before;
        }

        int statesThatMatter() {
            int relevant = initial.statesInside();
            int before = 0;
            for (int round = 0; round <= MAX_STATES && relevant != before; round++) {
                before = relevant;
                relevant |= statesAfter(before);
            }
            return relevant;
        }

        private int statesAfter(int set) {
            int after = 0;
            for (int state = 0; state < states; state++) {
                if ((set >> state & 1) != 0) {
                    for (int letter = 0; letter < letters; letter++) {
                        after |= move(state, letter).statesInside();
                    }
                }
            }
            return after;
        }

        long existentialReach() {
            long reached = 0L;
            long fresh = minimalSets(initial.table);
            for (int round = 0; round <= SETS && fresh != 0L; round++) {
                reached |= fresh;
                long next = 0L;
                for (int letter = 0; letter < letters; letter++) {
                    next |= existentialNext(fresh, letter);
                }
                fresh = next & ~reached;
            }
            return reached;
        }

        long existentialNext(long sets, int letter) {
            long next = 0L;
            for (int set = 0; set < SETS; set++) {
                if (isIn(sets, set)) {
                    next |= minimalSets(tableOfAll(set, letter));
                }
            }
            return next;
        }

        /** The empty set gives the table of true, so that it leads to the empty set alone. */
        private long tableOfAll(int set, int letter) {
            long table = -1L;
            for (int state = 0; state < states; state++) {
                if ((set >> state & 1) != 0) {
                    table &= move(state, letter).table;
                }
            }
            return table;
        }

        long acceptingSets() {
            long accepting = 0L;
            for (int set = 0; set < SETS; set++) {
                if ((set & ~finals) == 0) {
                    accepting |= 1L << set;
                }
            }
            return accepting;
        }
    }

    /** The text and its parser, which keeps the operators that still wait for their right part. */
    private static final class FormulaText {
        private final char[] signs = new char[MAX_TEXT];
        private final byte[] nodes = new byte[MAX_TEXT];
        private final long[] tables = new long[MAX_TEXT];
        private final byte[] waiting = new byte[MAX_TEXT];
        int length = 0;
        private int nodeCount = 0;
        private int tableCount = 0;
        private int waitingCount = 0;
        private int openCount = 0;

        void add(char sign, int count) {
            for (int i = 0; i < count && length < MAX_TEXT; i++) {
                signs[length] = sign;
                length++;
            }
        }

        int readInto(Formula formula, int states) {
            int errorOffset = parse(states);
            if (errorOffset != NONE) {
                return SYNTAX_ERROR - errorOffset;
            }
            if (nodeCount > MAX_NODES) {
                return FULL;
            }
            formula.become(nodes, nodeCount, tables[0]);
            return nodeCount;
        }

        /** The error offset, or NONE if the text is a formula. */
        private int parse(int states) {
            nodeCount = 0;
            tableCount = 0;
            waitingCount = 0;
            openCount = 0;
            boolean wantsFactor = true;
            for (int i = 0; i < length; i++) {
                int sign = signs[i];
                if (wantsFactor && sign == '(') {
                    openGroup();
                } else if (wantsFactor) {
                    int leaf = leafFor(sign, states);
                    if (leaf == NONE) {
                        return i;
                    }
                    addLeaf(leaf);
                    wantsFactor = false;
                } else if (sign == ')' && openCount > 0) {
                    closeGroup();
                } else if (sign == '&' || sign == '|') {
                    addOperator(sign == '&' ? NODE_AND : NODE_OR);
                    wantsFactor = true;
                } else {
                    return i;
                }
            }
            if (wantsFactor || openCount > 0) {
                return length;
            }
            applyWaiting(NODE_OR);
            return NONE;
        }

        private static int leafFor(int sign, int states) {
            if (sign == 't') {
                return NODE_TRUE;
            }
            if (sign == 'f') {
                return NODE_FALSE;
            }
            int state = sign - '0';
            return state >= 0 && state < states ? state : NONE;
        }

        private void addLeaf(int leaf) {
            addNode(leaf);
            if (tableCount < MAX_TEXT) {
                tables[tableCount] = leafTable(leaf);
                tableCount++;
            }
        }

        private static long leafTable(int leaf) {
            if (leaf >= 0 && leaf < MAX_STATES) {
                return CONTAINING[leaf];
            }
            return leaf == NODE_TRUE ? -1L : 0L;
        }

        private void addNode(int node) {
            if (nodeCount < MAX_TEXT) {
                nodes[nodeCount] = (byte) node;
                nodeCount++;
            }
        }

        /** Operators that bind as tightly are applied first: chains lean to the left. */
        private void addOperator(int operator) {
            applyWaiting(operator);
            addWaiting(operator);
        }

        private void addWaiting(int what) {
            if (waitingCount < MAX_TEXT) {
                waiting[waitingCount] = (byte) what;
                waitingCount++;
            }
        }

        private void openGroup() {
            addWaiting(OPEN);
            openCount++;
        }

        private void closeGroup() {
            applyWaiting(NODE_OR);
            if (waitingCount > 0) {
                waitingCount--;
            }
            openCount--;
        }

        private void applyWaiting(int leastOperator) {
            for (int at = waitingCount - 1; at >= 0 && waiting[at] >= leastOperator; at--) {
                applyOperator(waiting[at]);
                waitingCount = at;
            }
        }

        private void applyOperator(int operator) {
            addNode(operator);
            if (tableCount >= 2) {
                tableCount--;
                tables[tableCount - 1] = joinTables(operator, tables[tableCount - 1], tables[tableCount]);
            }
        }
    }

    private static final class FormulaPrinter {
        final char[] signs = new char[MAX_PRINTED];
        int length = 0;
        /** Of each printed part that waits for its operator: where it begins, and its topmost node. */
        private final int[] begins = new int[MAX_NODES];
        private final int[] tops = new int[MAX_NODES];
        private int partCount = 0;

        void write(Formula formula) {
            length = 0;
            partCount = 0;
            for (int i = 0; i < formula.size; i++) {
                int node = formula.nodeAt(i);
                if (node == NODE_AND || node == NODE_OR) {
                    joinParts(node);
                } else {
                    addPart(node);
                }
            }
        }

        private void addPart(int leaf) {
            if (partCount < MAX_NODES) {
                begins[partCount] = length;
                tops[partCount] = leaf;
                partCount++;
                insert(length, leafSign(leaf));
            }
        }

        private static char leafSign(int leaf) {
            if (leaf == NODE_TRUE) {
                return 't';
            }
            return leaf == NODE_FALSE ? 'f' : (char) ('0' + leaf);
        }

        /** From right to left, so that the places further left stay where they are. */
        private void joinParts(int operator) {
            if (partCount < 2) {
                return;
            }
            partCount--;
            int left = partCount - 1;
            int right = partCount;
            if (tops[right] == NODE_OR || tops[right] == NODE_AND && operator == NODE_AND) {
                insert(length, ')');
                insert(begins[right], '(');
            }
            insert(begins[right], operator == NODE_AND ? '&' : '|');
            if (tops[left] == NODE_OR && operator == NODE_AND) {
                insert(begins[right], ')');
                insert(begins[left], '(');
            }
            tops[left] = operator;
        }

        private void insert(int place, char sign) {
            if (place < 0 || place > length || length >= MAX_PRINTED) {
                return;
            }
            for (int i = length; i > place; i--) {
                signs[i] = signs[i - 1];
            }
            signs[place] = sign;
            length++;
        }
    }

    private static final class Word {
        private final byte[] letters;
        int length = 0;

        Word(int capacity) {
            letters = new byte[Math.max(capacity, 0)];
        }

        void add(int letter) {
            if (length < letters.length) {
                letters[length] = (byte) letter;
                length++;
            }
        }

        int letterAt(int index) {
            return index >= 0 && index < length ? letters[index] : 0;
        }

        boolean fits(Automaton automaton) {
            for (int i = 0; i < length; i++) {
                if (!automaton.hasLetter(letters[i])) {
                    return false;
                }
            }
            return true;
        }

        int acceptedFrom(Automaton automaton, int start) {
            int set = automaton.finals;
            for (int i = length - 1; i >= start && i >= 0; i--) {
                set = automaton.statesBefore(letters[i], set);
            }
            return set;
        }

        int costIn(Automaton automaton) {
            int cost = 0;
            for (int i = 0; i < length; i++) {
                if (automaton.hasLetter(letters[i])) {
                    cost += automaton.weights[letters[i]];
                }
            }
            return cost;
        }
    }

    /** Values are ranks, with OPPONENT_WINS added where the opponent wins. */
    private static final class Game {
        private final int[] values = new int[(MAX_WORD + 1) * MAX_STATES];
        /** The parts that wait for their operator: their values, and the states the strategy leads to. */
        private final int[] partValues = new int[MAX_NODES];
        private final int[] partStates = new int[MAX_NODES];

        void solve(Automaton automaton, Word word, int start) {
            for (int state = 0; state < automaton.states; state++) {
                boolean isFinal = (automaton.finals >> state & 1) != 0;
                setValue(word.length, state, isFinal ? 0 : OPPONENT_WINS);
            }
            for (int i = word.length - 1; i >= start && i >= 0; i--) {
                for (int state = 0; state < automaton.states; state++) {
                    evaluate(automaton.move(state, word.letterAt(i)), i + 1);
                    setValue(i, state, partValues[0] + 1);
                }
            }
        }

        int valueAt(int read, int state) {
            return isPosition(read, state) ? values[read * MAX_STATES + state] : OPPONENT_WINS;
        }

        private void setValue(int read, int state, int value) {
            if (isPosition(read, state)) {
                values[read * MAX_STATES + state] = value;
            }
        }

        private static boolean isPosition(int read, int state) {
            return read >= 0 && read <= MAX_WORD && state >= 0 && state < MAX_STATES;
        }

        /** For a formula that the automaton wins when its states are positions after so many letters. */
        int statesLedTo(Formula formula, int read) {
            evaluate(formula, read);
            return partStates[0];
        }

        private void evaluate(Formula formula, int read) {
            int count = 0;
            for (int i = 0; i < formula.size; i++) {
                int node = formula.nodeAt(i);
                if (node != NODE_AND && node != NODE_OR) {
                    if (count < MAX_NODES) {
                        partValues[count] = leafValue(node, read);
                        partStates[count] = node < MAX_STATES ? 1 << node : 0;
                        count++;
                    }
                } else if (count >= 2) {
                    count--;
                    joinParts(node, count - 1, count);
                }
            }
        }

        private int leafValue(int leaf, int read) {
            if (leaf < MAX_STATES) {
                return valueAt(read, leaf);
            }
            return leaf == NODE_TRUE ? 0 : OPPONENT_WINS;
        }

        private void joinParts(int operator, int left, int right) {
            int least = Math.min(partValues[left], partValues[right]);
            int most = Math.max(partValues[left], partValues[right]);
            boolean opponentWinsBoth = least >= OPPONENT_WINS;
            if (operator == NODE_AND) {
                // The opponent takes its quickest win; without one it drags the play out.
                partStates[left] |= partStates[right];
                partValues[left] = (opponentWinsBoth ? least : most) + 1;
            } else {
                // A part that the automaton wins has the lesser value, so it goes there.
                if (partValues[right] < partValues[left]) {
                    partStates[left] = partStates[right];
                }
                partValues[left] = (opponentWinsBoth ? most : least) + 1;
            }
        }
    }

    /** The reverse automaton of the automaton that was loaded last, with all of its steps worked out. */
    private static final class ReverseAutomaton {
        private final int[] steps = new int[MAX_LETTERS * SETS];
        private final int[] classes = new int[SETS];
        private final int[] finerClasses = new int[SETS];
        private final long[] counts = new long[SETS];
        private final long[] nextCounts = new long[SETS];
        int letters = 0;
        int first = 0;
        private long accepting = 0L;

        void load(Automaton automaton) {
            letters = automaton.letters;
            first = automaton.finals & SETS - 1;
            accepting = automaton.initial.table;
            int sets = 1 << automaton.states;
            for (int letter = 0; letter < letters; letter++) {
                for (int set = 0; set < sets && set < SETS; set++) {
                    steps[letter * SETS + set] = automaton.statesBefore(letter, set);
                }
            }
        }

        int step(int set, int letter) {
            int at = letter * SETS + set;
            return at >= 0 && at < steps.length ? steps[at] & SETS - 1 : 0;
        }

        boolean isAccepting(int set) {
            return isIn(accepting, set);
        }

        long reachable() {
            long reached = 0L;
            long fresh = 1L << first;
            for (int round = 0; round <= SETS && fresh != 0L; round++) {
                reached |= fresh;
                fresh = stepAll(fresh) & ~reached;
            }
            return reached;
        }

        private long stepAll(long sets) {
            long next = 0L;
            for (int set = 0; set < SETS; set++) {
                if (isIn(sets, set)) {
                    for (int letter = 0; letter < letters; letter++) {
                        next |= 1L << step(set, letter);
                    }
                }
            }
            return next;
        }

        /** Splits classes by where their sets go until a round splits none. */
        int countClasses() {
            long reached = reachable();
            for (int set = 0; set < SETS; set++) {
                classes[set] = isIn(accepting, set) ? 1 : 0;
            }
            int before = 0;
            int count = 1;
            for (int round = 0; round <= SETS && count != before; round++) {
                before = count;
                count = refine(reached);
            }
            return count;
        }

        private int refine(long reached) {
            int count = 0;
            for (int set = 0; set < SETS; set++) {
                if (isIn(reached, set)) {
                    int twin = earlierTwin(reached, set);
                    if (twin == NONE) {
                        finerClasses[set] = count;
                        count++;
                    } else {
                        finerClasses[set] = finerClasses[twin];
                    }
                }
            }
            System.arraycopy(finerClasses, 0, classes, 0, SETS);
            return count;
        }

        private int earlierTwin(long reached, int set) {
            for (int earlier = 0; earlier < set; earlier++) {
                if (isIn(reached, earlier) && areTwins(earlier, set)) {
                    return earlier;
                }
            }
            return NONE;
        }

        private boolean areTwins(int one, int other) {
            boolean same = classes[one] == classes[other];
            for (int letter = 0; letter < letters && same; letter++) {
                same = classes[step(one, letter)] == classes[step(other, letter)];
            }
            return same;
        }

        /** There are as many accepted words of a length as there are when they are read backwards. */
        long countAccepted(int length) {
            Arrays.fill(counts, 0L);
            counts[first] = 1L;
            for (int i = 0; i < length; i++) {
                countOneLetterMore();
            }
            long sum = 0L;
            for (int set = 0; set < SETS; set++) {
                if (isIn(accepting, set)) {
                    sum += counts[set];
                }
            }
            return sum;
        }

        private void countOneLetterMore() {
            Arrays.fill(nextCounts, 0L);
            for (int set = 0; set < SETS; set++) {
                if (counts[set] != 0L) {
                    for (int letter = 0; letter < letters; letter++) {
                        nextCounts[step(set, letter)] += counts[set];
                    }
                }
            }
            System.arraycopy(nextCounts, 0, counts, 0, SETS);
        }
    }

    /**
     * A price is the cost of a word and, as its lower digits, the word's length, so that the least price
     * belongs to the shortest of the cheapest words.
     */
    private static final class CheapestSearch {
        private static final int COST_UNIT = 1000;
        private static final int UNREACHED = 1000000000;
        private final int[] prices = new int[SETS];
        private int best = UNREACHED;

        /** Whether there is an accepted word; then spell gives the cheapest one. */
        boolean search(ReverseAutomaton reverse, int[] weights) {
            Arrays.fill(prices, UNREACHED);
            prices[reverse.first] = 0;
            boolean changed = true;
            for (int round = 0; round <= SETS && changed; round++) {
                changed = lowerPrices(reverse, weights);
            }
            best = UNREACHED;
            for (int set = 0; set < SETS; set++) {
                if (reverse.isAccepting(set)) {
                    best = Math.min(best, prices[set]);
                }
            }
            return best < UNREACHED;
        }

        private boolean lowerPrices(ReverseAutomaton reverse, int[] weights) {
            boolean changed = false;
            for (int set = 0; set < SETS; set++) {
                for (int letter = 0; letter < reverse.letters && prices[set] < UNREACHED; letter++) {
                    int price = prices[set] + priceOf(weights, letter);
                    int next = reverse.step(set, letter);
                    if (price < prices[next]) {
                        prices[next] = price;
                        changed = true;
                    }
                }
            }
            return changed;
        }

        private static int priceOf(int[] weights, int letter) {
            int weight = letter >= 0 && letter < weights.length ? weights[letter] : 1;
            return weight * COST_UNIT + 1;
        }

        /**
         * The reverse automaton reads the first letter last, so the word is spelled from the accepting
         * sets back, along all cheapest ways at once, always with the least letter that any way allows.
         */
        void spell(ReverseAutomaton reverse, int[] weights, Word found) {
            found.length = 0;
            long ends = 0L;
            for (int set = 0; set < SETS; set++) {
                if (reverse.isAccepting(set) && prices[set] == best) {
                    ends |= 1L << set;
                }
            }
            int left = best;
            for (int count = 0; count < SETS && left > 0; count++) {
                int letter = 0;
                long before = 0L;
                for (int x = 0; x < reverse.letters && before == 0L; x++) {
                    letter = x;
                    before = waysInto(reverse, ends, x, left - priceOf(weights, x));
                }
                found.add(letter);
                left -= priceOf(weights, letter);
                ends = before;
            }
        }

        private long waysInto(ReverseAutomaton reverse, long ends, int letter, int price) {
            long ways = 0L;
            for (int set = 0; set < SETS; set++) {
                if (prices[set] == price && isIn(ends, reverse.step(set, letter))) {
                    ways |= 1L << set;
                }
            }
            return ways;
        }
    }

    /** Breadth-first search through the pairs of sets that two reverse automata reach by the same word. */
    private static final class PairSearch {
        /** The pairs in the order in which they were reached, and how many letters each one takes. */
        private final short[] order = new short[PAIRS];
        private final short[] distances = new short[PAIRS];
        /** The pairs from which the letters that are spelled so far lead to a difference. */
        private final boolean[] leads = new boolean[PAIRS];
        private int count = 0;
        private int firstDifference = 0;

        PairSearch() {
            Arrays.fill(distances, (short) NONE);
        }

        /** Whether a word tells the two apart; if oneSided, only one that the first alone accepts. */
        boolean search(ReverseAutomaton one, ReverseAutomaton other, boolean oneSided) {
            forgetLast();
            reach(one.first * SETS + other.first, 0);
            for (int head = 0; head < count && head < PAIRS; head++) {
                int pair = order[head];
                if (differs(one, other, pair) && (!oneSided || one.isAccepting(pair / SETS))) {
                    firstDifference = head;
                    return true;
                }
                for (int letter = 0; letter < one.letters; letter++) {
                    reach(stepPair(one, other, pair, letter), distances[pair] + 1);
                }
            }
            return false;
        }

        private void forgetLast() {
            for (int i = 0; i < count && i < PAIRS; i++) {
                distances[order[i]] = NONE;
                leads[order[i]] = false;
            }
            count = 0;
        }

        private void reach(int pair, int distance) {
            if (pair >= 0 && pair < PAIRS && count < PAIRS && distances[pair] == NONE) {
                distances[pair] = (short) distance;
                order[count] = (short) pair;
                count++;
            }
        }

        private static boolean differs(ReverseAutomaton one, ReverseAutomaton other, int pair) {
            return one.isAccepting(pair / SETS) != other.isAccepting(pair % SETS);
        }

        private static int stepPair(ReverseAutomaton one, ReverseAutomaton other, int pair, int letter) {
            return one.step(pair / SETS, letter) * SETS + other.step(pair % SETS, letter);
        }

        /**
         * The first letter of the word is read last, so the word is spelled back from all pairs that
         * differ and are as near as the nearest one, always with the least letter that leads to one.
         */
        void spell(ReverseAutomaton one, ReverseAutomaton other, Word found) {
            found.length = 0;
            int distance = distances[order[firstDifference]];
            for (int i = firstDifference; i < count && distances[order[i]] == distance; i++) {
                leads[order[i]] = differs(one, other, order[i]);
            }
            int end = levelBegin(firstDifference, distance);
            for (int level = distance - 1; level >= 0; level--) {
                int begin = levelBegin(end, level);
                boolean isSpelled = false;
                for (int letter = 0; letter < one.letters && !isSpelled; letter++) {
                    isSpelled = markLeading(one, other, letter, begin, end);
                    if (isSpelled) {
                        found.add(letter);
                    }
                }
                end = begin;
            }
        }

        private int levelBegin(int end, int level) {
            int begin = end;
            for (int i = end - 1; i >= 0 && distances[order[i]] == level; i--) {
                begin = i;
            }
            return begin;
        }

        private boolean markLeading(ReverseAutomaton one, ReverseAutomaton other, int letter, int begin, int end) {
            boolean any = false;
            for (int i = begin; i < end && i < count; i++) {
                int pair = order[i];
                int next = stepPair(one, other, pair, letter);
                if (leads[next] && distances[next] == distances[pair] + 1) {
                    leads[pair] = true;
                    any = true;
                }
            }
            return any;
        }
    }
}
