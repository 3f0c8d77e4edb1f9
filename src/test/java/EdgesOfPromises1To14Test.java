/** A test for each sentence at promises 1 to 14 that names a boundary. */
public final class EdgesOfPromises1To14Test {
    private static final int NONE = -1;
    private static final int BAD = -2;
    private static final int FULL = -3;
    private static final int MISMATCH = -4;
    private static final int NOTHING = -5;
    private static final int MIN = Integer.MIN_VALUE;
    private static final int MAX = Integer.MAX_VALUE;
    private static final int[] NO_SLOTS = {-1, 3, MIN, MAX};

    private EdgesOfPromises1To14Test() {
    }

    public static void main(String[] args) throws ReflectiveOperationException {
        Sentences.runAll(EdgesOfPromises1To14Test.class);
    }

    private static Bench large() {
        Bench bench = new Bench();
        bench.create(0, 6, 3);
        return bench;
    }

    // Promise 1

    @Says(promise = 1, text = "Creates a workbench.")
    static void newObject() {
        Bench bench = new Bench();
        Due.is("no printed text", NONE, bench.printed(0));
        Due.is("no found word", NONE, bench.foundLetter(0));
        Due.is("no cost", 0, bench.foundCost());
        Due.is("no word", 0, bench.clearWord());
        Due.is("no snapshot", NOTHING, bench.restore());
        Due.is("no text", -100, bench.setInitial(0));
        Due.is("three automata of one state", 3, bench.save());
        bench.create(0, 6, 3);
        Due.is("objects are apart", 3, new Bench().save());
    }

    // Promise 2

    @Says(promise = 2, text = "Puts an automaton without final states into a slot.")
    static void createWithoutFinals() {
        Bench bench = large();
        bench.finals(0, 0, 1, 2, 3, 4, 5);
        bench.create(0, 6, 3);
        Due.is("final states", 0, bench.property(0, 2));
        bench.finals(0, 5);
        bench.create(0, 1, 1);
        bench.create(0, 6, 1);
        Due.is("after a smaller one", 0, bench.property(0, 2));
    }

    @Says(promise = 2, text = "All its formulas are false, and all its weights are 1.")
    static void createFalse() {
        Bench bench = large();
        bench.initial(0, "t");
        for (int state = 0; state < 6; state++) {
            bench.moves(0, state, 3, "t");
        }
        for (int letter = 0; letter < 3; letter++) {
            bench.setWeight(0, letter, 9);
        }
        // The smaller automaton in between must not keep what it does not show.
        bench.create(0, 1, 1);
        bench.create(0, 6, 3);
        Due.is("initial formula", "f", bench.shown(0, -1, 0));
        for (int state = 0; state < 6; state++) {
            for (int letter = 0; letter < 3; letter++) {
                Due.is("transition formula", "f", bench.shown(0, state, letter));
                Due.is("satisfied by all states", 0, bench.isSatisfied(0, state, letter, 63));
            }
        }
        for (int letter = 0; letter < 3; letter++) {
            Due.is("weight", 1, bench.property(0, 3 + letter));
        }
    }

    @Says(promise = 2, text = "- `states`: the number of states, 1 to 6")
    static void createStates() {
        for (int states : new int[] {1, 2, 5, 6}) {
            Bench bench = new Bench();
            Due.is("create", 1, bench.create(2, states, 1));
            Due.is("states", states, bench.property(2, 0));
        }
        for (int states : new int[] {0, 7, -1, 8, 9, MIN, MAX}) {
            Refused.due(BAD, bench -> bench.create(1, states, 2));
        }
    }

    @Says(promise = 2, text = "- `letters`: the number of letters, 1 to 3")
    static void createLetters() {
        for (int letters = 1; letters <= 3; letters++) {
            Bench bench = new Bench();
            Due.is("create", 1, bench.create(2, 1, letters));
            Due.is("letters", letters, bench.property(2, 1));
        }
        for (int letters : new int[] {0, 4, -1, 5, MIN, MAX}) {
            Refused.due(BAD, bench -> bench.create(1, 2, letters));
        }
    }

    @Says(promise = 2, text = "Returns the previous number of states;")
    static void createReturnsPrevious() {
        Bench bench = new Bench();
        Due.is("at first", 1, bench.create(1, 6, 1));
        Due.is("six", 6, bench.create(1, 6, 1));
        Due.is("six again", 6, bench.create(1, 3, 1));
        Due.is("three", 3, bench.create(1, 1, 1));
        Due.is("another slot", 1, bench.create(2, 1, 1));
    }

    @Says(promise = 2, text = "BAD_ARGUMENT if an argument is out of range.")
    static void createRefused() {
        for (int slot : NO_SLOTS) {
            Refused.due(BAD, bench -> bench.create(slot, 1, 1));
        }
        Refused.due(BAD, bench -> bench.create(0, 0, 0));
        Refused.due(BAD, bench -> bench.create(0, 7, 4));
        Refused.due(BAD, bench -> bench.create(3, 7, 4));
    }

    // Promise 3

    @Says(promise = 3, text = "- `isFinal`: 1 for final, 0 for not final")
    static void setFinalOneOrZero() {
        Bench bench = large();
        Due.is("final", 32, bench.setFinal(0, 5, 1));
        Due.is("final already", 32, bench.setFinal(0, 5, 1));
        Due.is("not final", 0, bench.setFinal(0, 5, 0));
        Due.is("not final already", 0, bench.setFinal(0, 5, 0));
        for (int isFinal : new int[] {-1, 2, 3, MIN, MAX}) {
            Refused.due(BAD, b -> b.setFinal(0, 0, isFinal));
        }
    }

    @Says(promise = 3, text = "Returns the set of final states afterwards;")
    static void setFinalReturnsSet() {
        Bench bench = large();
        int due = 0;
        for (int state = 0; state < 6; state++) {
            due |= 1 << state;
            Due.is("one more", due, bench.setFinal(0, state, 1));
            Due.is("property", due, bench.property(0, 2));
        }
        for (int state = 0; state < 6; state++) {
            due &= ~(1 << state);
            Due.is("one less", due, bench.setFinal(0, state, 0));
        }
        Due.is("other slots", 0, bench.property(1, 2));
    }

    @Says(promise = 3, text = "BAD_ARGUMENT if there is no such slot or state or isFinal is not 0 or 1.")
    static void setFinalRefused() {
        for (int slot : NO_SLOTS) {
            Refused.due(BAD, bench -> bench.setFinal(slot, 0, 1));
        }
        // Slot 0 has three states; 32 and 35 would be shifted back to states of it.
        for (int state : new int[] {-1, 3, 6, 32, 35, -32, MIN, MAX}) {
            Refused.due(BAD, bench -> bench.setFinal(0, state, 1));
            Refused.due(BAD, bench -> bench.setFinal(0, state, 0));
        }
        Refused.due(BAD, bench -> bench.setFinal(1, 6, 1));
        Refused.due(BAD, bench -> bench.setFinal(2, 0, 2));
    }

    // Promise 4

    @Says(promise = 4, text = "- `weight`: the weight, 1 to 9")
    static void weightRange() {
        Bench bench = large();
        Due.is("1", 1, bench.setWeight(0, 1, 1));
        Due.is("9", 1, bench.setWeight(0, 1, 9));
        Due.is("weight", 9, bench.property(0, 4));
        for (int weight : new int[] {0, 10, -1, 11, MIN, MAX}) {
            Refused.due(BAD, b -> b.setWeight(1, 2, weight));
        }
    }

    @Says(promise = 4, text = "Returns the previous weight;")
    static void weightReturnsPrevious() {
        Bench bench = large();
        Due.is("at first", 1, bench.setWeight(0, 2, 9));
        Due.is("nine", 9, bench.setWeight(0, 2, 9));
        Due.is("nine again", 9, bench.setWeight(0, 2, 1));
        Due.is("one", 1, bench.setWeight(0, 2, 5));
        Due.is("another letter", 1, bench.setWeight(0, 1, 5));
        Due.is("another slot", 1, bench.setWeight(1, 0, 5));
    }

    @Says(promise = 4, text = "BAD_ARGUMENT if there is no such slot or letter or the weight is out of range.")
    static void weightRefused() {
        for (int slot : NO_SLOTS) {
            Refused.due(BAD, bench -> bench.setWeight(slot, 0, 1));
        }
        // Slot 0 has two letters, slot 1 has three.
        for (int letter : new int[] {-1, 2, 3, MIN, MAX}) {
            Refused.due(BAD, bench -> bench.setWeight(0, letter, 5));
        }
        Refused.due(BAD, bench -> bench.setWeight(1, 3, 5));
        Refused.due(BAD, bench -> bench.setWeight(1, 3, 0));
    }

    // Promise 5

    @Says(promise = 5, text = "- `code`: the character, 0 to 127")
    static void appendCodes() {
        Bench bench = new Bench();
        Due.is("0", 1, bench.append(0, 1));
        Due.is("127", 2, bench.append(127, 1));
        for (int code : new int[] {-1, 128, 256 + '0', 65536 + '0', MIN, MAX}) {
            Refused.due(BAD, b -> b.append(code, 1));
        }
    }

    @Says(promise = 5, text = "- `count`: how many times, 1 to 60")
    static void appendCounts() {
        Due.is("1", 1, new Bench().append('t', 1));
        Due.is("60", 60, new Bench().append('t', 60));
        for (int count : new int[] {0, 61, -1, MIN, MAX, MAX - 1}) {
            Refused.due(BAD, b -> b.append('t', count));
        }
        Bench bench = new Bench();
        bench.append('(', 3);
        bench.append('0', 1);
        bench.append(')', 3);
        Due.is("as many as are asked for", 1, bench.setInitial(0));
        bench.append('(', 3);
        bench.append('0', 1);
        bench.append(')', 4);
        Due.is("one too many", -107, bench.setInitial(0));
    }

    @Says(promise = 5, text = "Returns the length of the text afterwards;")
    static void appendReturnsLength() {
        Bench bench = new Bench();
        Due.is("first", 1, bench.append('t', 1));
        Due.is("more", 8, bench.append('t', 7));
        Due.is("all", 60, bench.append('t', 52));
        bench.setInitial(0);
        Due.is("from the beginning", 1, bench.append('t', 1));
    }

    @Says(promise = 5, text = "BAD_ARGUMENT if an argument is out of range;")
    static void appendRefused() {
        Refused.due(BAD, bench -> bench.append(-1, 0));
        Refused.due(BAD, bench -> bench.append(128, 61));
        Refused.due(BAD, bench -> bench.append(MIN, MIN));
        Refused.due(BAD, bench -> bench.append(MAX, MAX));
    }

    @Says(promise = 5, text = "FULL if the text would have more than 60 characters.")
    static void appendFull() {
        for (int length = 1; length <= 60; length++) {
            Bench bench = new Bench();
            bench.append('(', length);
            Due.is("one too many after " + length, FULL, bench.append('(', 61 - length));
            Due.is("the text stays", -100 - length, bench.setInitial(0));
            if (length < 60) {
                bench.append('(', length);
                Due.is("just enough after " + length, 60, bench.append('(', 60 - length));
            }
        }
        // The furnished bench has a text of two characters when the call is made.
        Refused.due(FULL, bench -> bench.append('0', 59));
        Refused.due(FULL, bench -> bench.append('0', 60));
        Refused.due(FULL, bench -> bench.append('0', 58), bench -> bench.append('0', 1));
    }

    // Promise 6

    @Says(promise = 6, text = "Parses the text as the initial formula.")
    static void initialParses() {
        Bench bench = large();
        bench.initial(0, "0&(1|2)");
        Due.is("formula", "0&(1|2)", bench.shown(0, -1, 0));
        Due.is("transition formulas stay", "f", bench.shown(0, 0, 0));
        Due.is("other slots stay", "f", bench.shown(1, -1, 0));
        bench.initial(0, "t");
        Due.is("replaced", "t", bench.shown(0, -1, 0));
        Due.is("no states are left", 0, bench.relevantStates(0));
    }

    @Says(promise = 6, text = "The text is empty afterwards, also after an error.")
    static void initialEmptiesText() {
        String[] texts = {"0", "0&", "0|".repeat(20) + "0", "x"};
        for (String text : texts) {
            for (int slot : new int[] {0, 3, -1}) {
                Bench bench = large();
                bench.type(text);
                bench.setInitial(slot);
                Due.is("a new text", 1, bench.append('t', 1));
                Due.is("nothing before it", 1, bench.setInitial(0));
                Due.is("an empty text", -100, bench.setInitial(0));
            }
        }
    }

    @Says(promise = 6, text = "Returns the number of nodes of the formula;")
    static void initialReturnsNodes() {
        for (int operators = 0; operators < 20; operators++) {
            Bench bench = large();
            Due.is("disjunction", 2 * operators + 1, bench.initial(0, "0|".repeat(operators) + "5"));
            Due.is("conjunction", 2 * operators + 1, bench.initial(0, "5" + "&t".repeat(operators)));
        }
    }

    @Says(promise = 6, text = "BAD_ARGUMENT if there is no such slot;")
    static void initialRefusedSlot() {
        for (int slot : NO_SLOTS) {
            Refused.dueWithText(BAD, "0", bench -> bench.setInitial(slot));
            Refused.dueWithText(BAD, "", bench -> bench.setInitial(slot));
        }
    }

    @Says(promise = 6, text = "-100 minus the error offset if the text has a syntax error;")
    static void initialSyntaxError() {
        Refused.dueWithText(-100, "", bench -> bench.setInitial(0));
        Refused.dueWithText(-100, "3", bench -> bench.setInitial(0));
        Refused.dueWithText(-102, "0|3", bench -> bench.setInitial(0));
        Refused.dueWithText(-101, "0)", bench -> bench.setInitial(0));
        Refused.dueWithText(-160, "(".repeat(60), bench -> bench.setInitial(0));
        Refused.dueWithText(-159, "(".repeat(59) + "x", bench -> bench.setInitial(0));
        for (int depth = 0; depth <= 29; depth++) {
            Bench deep = new Bench();
            deep.type("(".repeat(depth) + "0" + ")".repeat(depth) + ")");
            Due.is("depth " + depth, -100 - (2 * depth + 1), deep.setInitial(0));
        }
        Bench bench = large();
        Due.is("a state of another slot's automaton", -100, bench.initial(1, "1"));
    }

    @Says(promise = 6, text = "FULL if the formula would have more than 40 nodes.")
    static void initialFull() {
        Due.is("39 nodes", 39, large().initial(0, "0&".repeat(19) + "0"));
        for (int operators = 20; operators < 30; operators++) {
            String text = "0&".repeat(operators) + "0";
            Refused.dueWithText(FULL, text, bench -> bench.setInitial(0));
        }
        Due.is("39 nodes in 57 characters", 39, large().initial(0, "(0|1)&".repeat(9) + "0&1"));
        Refused.dueWithText(FULL, "(0|1)&".repeat(9) + "0&0&1", bench -> bench.setInitial(0));
    }

    // Promise 7

    @Says(promise = 7, text = "Parses the text as a transition formula.")
    static void transitionParses() {
        Bench bench = large();
        bench.move(0, 5, 2, "0&(1|2)");
        bench.move(0, 0, 0, "5");
        Due.is("formula", "0&(1|2)", bench.shown(0, 5, 2));
        Due.is("formula", "5", bench.shown(0, 0, 0));
        Due.is("the letter before", "f", bench.shown(0, 5, 1));
        Due.is("the state before", "f", bench.shown(0, 4, 2));
        Due.is("the initial formula stays", "f", bench.shown(0, -1, 0));
        bench.move(0, 5, 2, "f|t");
        Due.is("replaced", "f|t", bench.shown(0, 5, 2));
    }

    @Says(promise = 7, text = "The text is empty afterwards, also after an error.")
    static void transitionEmptiesText() {
        int[][] places = {{0, 0, 0}, {3, 0, 0}, {0, 6, 0}, {0, -1, 0}, {0, 0, 3}, {0, 0, -1}};
        String[] texts = {"0", "0&", "0|".repeat(20) + "0", "x"};
        for (String text : texts) {
            for (int[] place : places) {
                Bench bench = large();
                bench.type(text);
                bench.setTransition(place[0], place[1], place[2]);
                Due.is("a new text", 1, bench.append('t', 1));
                Due.is("nothing before it", 1, bench.setTransition(0, 0, 0));
                Due.is("an empty text", -100, bench.setTransition(0, 0, 0));
            }
        }
    }

    @Says(promise = 7, text = "Returns the number of nodes of the formula;")
    static void transitionReturnsNodes() {
        for (int operators = 0; operators < 20; operators++) {
            Bench bench = large();
            Due.is("disjunction", 2 * operators + 1, bench.move(0, 5, 2, "0|".repeat(operators) + "5"));
            Due.is("conjunction", 2 * operators + 1, bench.move(0, 0, 0, "5" + "&t".repeat(operators)));
        }
    }

    @Says(promise = 7, text = "BAD_ARGUMENT if there is no such slot, state or letter;")
    static void transitionRefusedPlace() {
        for (int slot : NO_SLOTS) {
            Refused.dueWithText(BAD, "0", bench -> bench.setTransition(slot, 0, 0));
        }
        // Slot 0 has three states and two letters; -1 is no state here.
        for (int state : new int[] {-1, -2, 3, 6, MIN, MAX}) {
            Refused.dueWithText(BAD, "0", bench -> bench.setTransition(0, state, 0));
        }
        for (int letter : new int[] {-1, 2, 3, MIN, MAX}) {
            Refused.dueWithText(BAD, "0", bench -> bench.setTransition(0, 0, letter));
        }
        Refused.dueWithText(BAD, "0", bench -> bench.setTransition(1, 6, 2));
        Refused.dueWithText(BAD, "0", bench -> bench.setTransition(1, 5, 3));
    }

    @Says(promise = 7, text = "-100 minus the error offset if the text has a syntax error;")
    static void transitionSyntaxError() {
        Refused.dueWithText(-100, "", bench -> bench.setTransition(0, 2, 1));
        Refused.dueWithText(-100, "3", bench -> bench.setTransition(0, 2, 1));
        Refused.dueWithText(-102, "0|3", bench -> bench.setTransition(0, 2, 1));
        Refused.dueWithText(-101, "0)", bench -> bench.setTransition(0, 2, 1));
        Refused.dueWithText(-160, "(".repeat(60), bench -> bench.setTransition(0, 2, 1));
        Refused.dueWithText(-159, "(".repeat(59) + "x", bench -> bench.setTransition(0, 2, 1));
    }

    @Says(promise = 7, text = "FULL if the formula would have more than 40 nodes.")
    static void transitionFull() {
        Due.is("39 nodes", 39, large().move(0, 5, 2, "0&".repeat(19) + "0"));
        for (int operators = 20; operators < 30; operators++) {
            String text = "0&".repeat(operators) + "0";
            Refused.dueWithText(FULL, text, bench -> bench.setTransition(0, 2, 1));
        }
    }

    // Promise 8

    @Says(promise = 8, text = "- `what`: 0 for the number of states, 1 for the number of letters, 2 for the set of "
        + "final "
        + "states, 3 to 5 for the weight of letter 0 to 2, NONE if there is no such letter")
    static void propertyKinds() {
        for (int letters = 1; letters <= 3; letters++) {
            Bench bench = new Bench();
            bench.create(1, 5, letters);
            bench.finals(1, 4, 1);
            int[] due = {5, letters, 18, 7, letters > 1 ? 8 : NONE, letters > 2 ? 9 : NONE};
            for (int letter = 0; letter < letters; letter++) {
                bench.setWeight(1, letter, 7 + letter);
            }
            for (int what = 0; what < 6; what++) {
                Due.is("property " + what + " with " + letters + " letters", due[what], bench.property(1, what));
            }
        }
    }

    @Says(promise = 8, text = "BAD_ARGUMENT if there is no such slot or what is not from 0 to 5.")
    static void propertyRefused() {
        for (int slot : NO_SLOTS) {
            Refused.due(BAD, bench -> bench.property(slot, 0));
            Refused.due(BAD, bench -> bench.property(slot, 5));
        }
        for (int what : new int[] {-1, 6, MIN, MAX}) {
            Refused.due(BAD, bench -> bench.property(1, what));
        }
    }

    // Promise 9

    @Says(promise = 9, text = "The printed text replaces the one before.")
    static void printReplaces() {
        Bench bench = large();
        bench.initial(0, "0&1&2");
        bench.move(0, 0, 0, "4|5");
        Due.is("long", "0&1&2", bench.shown(0, -1, 0));
        Due.is("shorter", "4|5", bench.shown(0, 0, 0));
        Due.is("nothing of the longer one", NONE, bench.printed(3));
        Due.is("long again", "0&1&2", bench.shown(0, -1, 0));
        bench.initial(0, "t");
        Due.is("a new formula does not print", "0&1&2", bench.shownBefore());
    }

    @Says(promise = 9, text = "- `state`: the state of a transition formula, or -1 for the initial formula")
    static void printState() {
        Bench bench = large();
        bench.initial(0, "t");
        bench.move(0, 0, 0, "0");
        bench.move(0, 5, 0, "5");
        Due.is("-1", "t", bench.shown(0, -1, 0));
        Due.is("0", "0", bench.shown(0, 0, 0));
        Due.is("5", "5", bench.shown(0, 5, 0));
        Due.is("-2", BAD, bench.print(0, -2, 0));
        Due.is("6", BAD, bench.print(0, 6, 0));
    }

    @Says(promise = 9, text = "- `letter`: the letter of a transition formula, ignored for the initial formula")
    static void printLetter() {
        Bench bench = large();
        bench.initial(0, "1|2");
        for (int letter : new int[] {-1, 0, 2, 3, 99, MIN, MAX}) {
            Due.is("letter " + letter, 3, bench.print(0, -1, letter));
        }
        bench.move(0, 0, 2, "4");
        Due.is("2", "4", bench.shown(0, 0, 2));
        Due.is("3", BAD, bench.print(0, 0, 3));
        Due.is("-1", BAD, bench.print(0, 0, -1));
    }

    @Says(promise = 9, text = "Returns the length of the printed text;")
    static void printLength() {
        Bench bench = large();
        Due.is("one", 1, bench.print(0, 0, 0));
        bench.initial(0, "(0|1)&(2|3)");
        Due.is("with parentheses", 11, bench.print(0, -1, 0));
        bench.initial(0, "((0)&(1))");
        Due.is("without them", 3, bench.print(0, -1, 0));
        // An initial formula that was combined may be longer than a text.
        Bench other = new Bench();
        String half = "0&(0|(0|(0|(0|(0|(0|(0|(0|0))))))))";
        other.initial(0, half);
        other.initial(1, half);
        other.combine(0, 1, 2, 1);
        Due.is("longer than a text", 2 * half.length() + 3, other.print(2, -1, 0));
        Due.is("its end", half + "&(" + half.replace('0', '1') + ")", other.shownBefore());
    }

    @Says(promise = 9, text = "BAD_ARGUMENT if there is no such slot or formula.")
    static void printRefused() {
        for (int slot : NO_SLOTS) {
            Refused.due(BAD, bench -> bench.print(slot, -1, 0));
            Refused.due(BAD, bench -> bench.print(slot, 0, 0));
        }
        for (int state : new int[] {-2, 3, 6, MIN, MAX}) {
            Refused.due(BAD, bench -> bench.print(0, state, 0));
        }
        for (int letter : new int[] {-1, 2, 3, MIN, MAX}) {
            Refused.due(BAD, bench -> bench.print(0, 0, letter));
        }
    }

    // Promise 10

    @Says(promise = 10, text = "Returns a character of the printed text, which is empty at first.")
    static void printedAtFirst() {
        Bench bench = new Bench();
        Due.is("at first", NONE, bench.printed(0));
        bench.initial(0, "0");
        Due.is("before it is printed", NONE, bench.printed(0));
        bench.print(0, -1, 0);
        Due.is("printed", '0', bench.printed(0));
    }

    @Says(promise = 10, text = "- `index`: the index, from 0")
    static void printedIndex() {
        Bench bench = large();
        bench.initial(0, "1&(2|t)");
        bench.print(0, -1, 0);
        String due = "1&(2|t)";
        for (int i = 0; i < due.length(); i++) {
            Due.is("index " + i, due.charAt(i), bench.printed(i));
        }
    }

    @Says(promise = 10, text = "NONE if there is no such index.")
    static void printedNone() {
        Bench bench = large();
        bench.initial(0, "1&2");
        bench.print(0, -1, 0);
        Due.is("last", '2', bench.printed(2));
        for (int index : new int[] {3, 4, 119, 120, 121, -1, MIN, MAX}) {
            Due.is("index " + index, NONE, bench.printed(index));
        }
    }

    // Promise 11

    @Says(promise = 11, text = "- `state`: the state of a transition formula, or -1 for the initial formula")
    static void isSatisfiedState() {
        Bench bench = large();
        bench.initial(0, "t");
        bench.move(0, 5, 0, "5");
        Due.is("-1", 1, bench.isSatisfied(0, -1, 0, 0));
        Due.is("0", 0, bench.isSatisfied(0, 0, 0, 63));
        Due.is("5", 1, bench.isSatisfied(0, 5, 0, 32));
        Due.is("-2", BAD, bench.isSatisfied(0, -2, 0, 0));
        Due.is("6", BAD, bench.isSatisfied(0, 6, 0, 0));
    }

    @Says(promise = 11, text = "- `letter`: the letter of a transition formula, ignored for the initial formula")
    static void isSatisfiedLetter() {
        Bench bench = large();
        bench.initial(0, "t");
        for (int letter : new int[] {-1, 3, 99, MIN, MAX}) {
            Due.is("initial, letter " + letter, 1, bench.isSatisfied(0, -1, letter, 0));
            Due.is("transition, letter " + letter, BAD, bench.isSatisfied(0, 0, letter, 0));
        }
        bench.move(0, 0, 2, "t");
        Due.is("2", 1, bench.isSatisfied(0, 0, 2, 0));
        Due.is("1", 0, bench.isSatisfied(0, 0, 1, 0));
    }

    @Says(promise = 11, text = "- `set`: the set of states")
    static void isSatisfiedSet() {
        for (int states = 1; states <= 6; states++) {
            Bench bench = new Bench();
            bench.create(0, states, 1);
            bench.initial(0, String.valueOf(states - 1));
            int all = (1 << states) - 1;
            Due.is("the empty set", 0, bench.isSatisfied(0, -1, 0, 0));
            Due.is("all states", 1, bench.isSatisfied(0, -1, 0, all));
            Due.is("more states", BAD, bench.isSatisfied(0, -1, 0, all + 1));
            Due.is("other bits too", BAD, bench.isSatisfied(0, -1, 0, all + (1 << 16)));
        }
    }

    @Says(promise = 11, text = "BAD_ARGUMENT if there is no such slot or formula or set is not a set of states of "
        + "the automaton.")
    static void isSatisfiedRefused() {
        for (int slot : NO_SLOTS) {
            Refused.due(BAD, bench -> bench.isSatisfied(slot, -1, 0, 0));
        }
        for (int state : new int[] {-2, 3, MIN, MAX}) {
            Refused.due(BAD, bench -> bench.isSatisfied(0, state, 0, 0));
        }
        for (int letter : new int[] {-1, 2, MIN, MAX}) {
            Refused.due(BAD, bench -> bench.isSatisfied(0, 0, letter, 0));
        }
        for (int set : new int[] {-1, 8, 64, MIN, MAX}) {
            Refused.due(BAD, bench -> bench.isSatisfied(0, -1, 0, set));
            Refused.due(BAD, bench -> bench.isSatisfied(0, 0, 0, set));
        }
        Refused.due(BAD, bench -> bench.isSatisfied(1, -1, 0, 64));
    }

    // Promise 12

    @Says(promise = 12, text = "- `state`: the state of a transition formula, or -1 for the initial formula")
    static void modelState() {
        Bench bench = large();
        bench.initial(0, "1&2");
        bench.move(0, 5, 0, "5");
        Due.is("-1", 6, bench.model(0, -1, 0, 0));
        Due.is("0", 0, bench.model(0, 0, 0, -1));
        Due.is("5", 32, bench.model(0, 5, 0, 0));
        Due.is("-2", BAD, bench.model(0, -2, 0, 0));
        Due.is("6", BAD, bench.model(0, 6, 0, 0));
    }

    @Says(promise = 12, text = "- `letter`: the letter of a transition formula, ignored for the initial formula")
    static void modelLetter() {
        Bench bench = large();
        bench.initial(0, "1&2");
        for (int letter : new int[] {-1, 3, 99, MIN, MAX}) {
            Due.is("initial, letter " + letter, 6, bench.model(0, -1, letter, 0));
            Due.is("transition, letter " + letter, BAD, bench.model(0, 0, letter, 0));
        }
        bench.move(0, 0, 2, "3");
        Due.is("2", 8, bench.model(0, 0, 2, 0));
        Due.is("1", NONE, bench.model(0, 0, 1, 0));
    }

    @Says(promise = 12, text = "- `position`: the position from 0 in the order of minimal models, or -1 for their "
        + "number")
    static void modelPosition() {
        Bench bench = large();
        // A state each of two of the three groups 01, 23 and 45.
        bench.initial(0, "(0|1|2|3)&(0|1|4|5)&(2|3|4|5)");
        int number = 12;
        Due.is("number", number, bench.model(0, -1, 0, -1));
        int before = -1;
        for (int position = 0; position < number; position++) {
            int model = bench.model(0, -1, 0, position);
            int key = Integer.bitCount(model) * 64 + model;
            Due.is("models are in order", 1, key > before ? 1 : 0);
            before = key;
        }
        Due.is("first", 5, bench.model(0, -1, 0, 0));
        Due.is("none after the last", NONE, bench.model(0, -1, 0, number));
        bench.initial(0, "f");
        Due.is("number of none", 0, bench.model(0, -1, 0, -1));
        bench.initial(0, "t");
        Due.is("number of one", 1, bench.model(0, -1, 0, -1));
        Due.is("the empty set", 0, bench.model(0, -1, 0, 0));
    }

    @Says(promise = 12, text = "BAD_ARGUMENT if there is no such slot or formula or position is less than -1;")
    static void modelRefused() {
        for (int slot : NO_SLOTS) {
            Refused.due(BAD, bench -> bench.model(slot, -1, 0, -1));
        }
        for (int state : new int[] {-2, 3, MIN, MAX}) {
            Refused.due(BAD, bench -> bench.model(0, state, 0, -1));
        }
        for (int letter : new int[] {-1, 2, MIN, MAX}) {
            Refused.due(BAD, bench -> bench.model(0, 0, letter, -1));
        }
        for (int position : new int[] {-2, -3, MIN}) {
            Refused.due(BAD, bench -> bench.model(0, -1, 0, position));
            Refused.due(BAD, bench -> bench.model(0, 0, 0, position));
        }
    }

    @Says(promise = 12, text = "NONE if there are not so many.")
    static void modelNone() {
        Bench bench = large();
        bench.initial(0, "0|1");
        Due.is("the last", 2, bench.model(0, -1, 0, 1));
        for (int position : new int[] {2, 3, 63, 64, 1000, MAX}) {
            Due.is("position " + position, NONE, bench.model(0, -1, 0, position));
        }
        Due.is("false has not even one", NONE, bench.model(0, 0, 0, 0));
        bench.initial(0, "t");
        Due.is("true has the empty set", 0, bench.model(0, -1, 0, 0));
        Due.is("true has no other one", NONE, bench.model(0, -1, 0, 1));
    }

    // Promise 13

    @Says(promise = 13, text = "- `letter`: the letter, 0 to 2")
    static void pushLetters() {
        Bench bench = new Bench();
        for (int letter = 0; letter <= 2; letter++) {
            Due.is("letter " + letter, letter + 1, bench.push(letter));
        }
        Due.is("also a letter that no automaton has", MISMATCH, bench.accepts(0));
    }

    @Says(promise = 13, text = "Returns the length of the word afterwards;")
    static void pushReturnsLength() {
        Bench bench = new Bench();
        for (int length = 1; length <= 12; length++) {
            Due.is("length", length, bench.push(length % 3));
        }
        bench.clearWord();
        Due.is("from the beginning", 1, bench.push(2));
    }

    @Says(promise = 13, text = "BAD_ARGUMENT if letter is out of range;")
    static void pushRefused() {
        for (int letter : new int[] {-1, 3, 4, 256, MIN, MAX}) {
            Refused.due(BAD, bench -> bench.push(letter));
        }
    }

    @Says(promise = 13, text = "FULL if the word has 12 letters.")
    static void pushFull() {
        for (int letter = 0; letter <= 2; letter++) {
            int pushed = letter;
            Refused.due(FULL, bench -> bench.word("012012012012"), bench -> bench.push(pushed));
        }
        Bench bench = new Bench();
        bench.word("01201201201");
        Due.is("the twelfth", 12, bench.push(0));
        Due.is("the thirteenth", FULL, bench.push(0));
        Due.is("the fourteenth", FULL, bench.push(0));
        Due.is("still twelve", 12, bench.clearWord());
        Due.is("room again", 1, bench.push(0));
    }

    // Promise 14

    @Says(promise = 14, text = "Makes the word empty.")
    static void clearWordEmpties() {
        Bench bench = large();
        bench.finals(0, 3);
        bench.word("012");
        Due.is("three letters", 0, bench.acceptingStates(0, 0));
        bench.clearWord();
        Due.is("no letters", 8, bench.acceptingStates(0, 0));
        Due.is("no start beyond", BAD, bench.acceptingStates(0, 1));
        Due.is("empty already", 0, bench.clearWord());
    }

    @Says(promise = 14, text = "Returns its previous length.")
    static void clearWordReturnsLength() {
        for (int length = 0; length <= 12; length++) {
            Bench bench = new Bench();
            bench.word("012012012012".substring(0, length));
            Due.is("length", length, bench.clearWord());
            Due.is("then none", 0, bench.clearWord());
        }
    }
}
