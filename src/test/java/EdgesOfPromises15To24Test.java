/** A test for each sentence at promises 15 to 24 that names a boundary. */
public final class EdgesOfPromises15To24Test {
    private static final int NONE = -1;
    private static final int BAD = -2;
    private static final int MISMATCH = -4;
    private static final int MIN = Integer.MIN_VALUE;
    private static final int MAX = Integer.MAX_VALUE;
    private static final int[] NO_SLOTS = {-1, 3, MIN, MAX};
    private static final String FULL_WORD = "010101010101";

    private EdgesOfPromises15To24Test() {
    }

    public static void main(String[] args) throws ReflectiveOperationException {
        Sentences.runAll(EdgesOfPromises15To24Test.class);
    }

    private static Bench large() {
        Bench bench = new Bench();
        bench.create(0, 6, 3);
        return bench;
    }

    /** All states of slot 0 stay where they are by two letters, and state 0 is final. */
    private static Bench staying(int states) {
        Bench bench = new Bench();
        bench.create(0, states, 2);
        for (int state = 0; state < states; state++) {
            bench.moves(0, state, 2, String.valueOf(state));
        }
        bench.finals(0, 0);
        return bench;
    }

    /** The states of slot 0 go round by its only letter, each to the one with the next number. */
    private static Bench rotation(int states) {
        Bench bench = new Bench();
        bench.create(0, states, 1);
        for (int state = 0; state < states; state++) {
            bench.move(0, state, 0, String.valueOf((state + 1) % states));
        }
        return bench;
    }

    /** That a call fits with a word of the automaton's letters, and that one letter too high anywhere refuses it. */
    private static void mismatch(Refused.Call call) {
        String[] words = {"2", "20", "02", "2" + FULL_WORD.substring(1), FULL_WORD.substring(1) + "2", "0002000"};
        for (String word : words) {
            Refused.due(MISMATCH, bench -> bench.word(word), call);
        }
        Bench bench = Refused.furnished();
        bench.word(FULL_WORD);
        Due.isNot("letters that the automaton has", MISMATCH, call.on(bench));
        Bench wider = Refused.furnished();
        wider.create(0, 3, 3);
        wider.word("02");
        Due.isNot("an automaton with three letters", MISMATCH, call.on(wider));
        Bench narrower = Refused.furnished();
        narrower.create(0, 3, 1);
        narrower.word("01");
        Due.is("an automaton with one letter", MISMATCH, call.on(narrower));
    }

    // Promise 15

    @Says(promise = 15, text = "- `start`: the number of letters at the beginning of the word that do not belong to "
        + "the suffix, "
        + "0 to the length of the word")
    static void acceptingStatesStart() {
        // A suffix of n letters is accepted from state n alone, and all longer ones are from no state.
        Bench bench = large();
        bench.finals(0, 0);
        for (int state = 1; state < 6; state++) {
            bench.moves(0, state, 3, String.valueOf(state - 1));
        }
        bench.word("012012012012");
        for (int start = 0; start <= 12; start++) {
            int left = 12 - start;
            Due.is("start " + start, left < 6 ? 1 << left : 0, bench.acceptingStates(0, start));
        }
        Due.is("start 13", BAD, bench.acceptingStates(0, 13));
        Due.is("start -1", BAD, bench.acceptingStates(0, -1));
        bench.clearWord();
        Due.is("the empty word", 1, bench.acceptingStates(0, 0));
        Due.is("beyond the empty word", BAD, bench.acceptingStates(0, 1));
    }

    @Says(promise = 15, text = "BAD_ARGUMENT if there is no such slot or start is out of range;")
    static void acceptingStatesRefused() {
        for (int slot : NO_SLOTS) {
            Refused.due(BAD, bench -> bench.acceptingStates(slot, 0));
        }
        for (int start : new int[] {-1, 3, 13, MIN, MAX}) {
            Refused.due(BAD, bench -> bench.acceptingStates(0, start));
        }
    }

    @Says(promise = 15, text = "MISMATCH if the word has a letter that the automaton does not have.")
    static void acceptingStatesMismatch() {
        mismatch(bench -> bench.acceptingStates(0, 0));
        mismatch(bench -> bench.acceptingStates(0, 1));
        // The word has the letter, though the suffix does not.
        Refused.due(MISMATCH, bench -> bench.word("200"), bench -> bench.acceptingStates(0, 1));
        Refused.due(MISMATCH, bench -> bench.word("200"), bench -> bench.acceptingStates(0, 3));
    }

    // Promise 16

    @Says(promise = 16, text = "Returns whether the word is accepted by an automaton.")
    static void acceptsWords() {
        // Words whose number of letters is 2 modulo 3.
        Bench bench = rotation(3);
        bench.initial(0, "0");
        bench.finals(0, 2);
        for (int length = 0; length <= 12; length++) {
            Due.is("length " + length, length % 3 == 2 ? 1 : 0, bench.accepts(0));
            bench.push(0);
        }
    }

    @Says(promise = 16, text = "BAD_ARGUMENT if there is no such slot;")
    static void acceptsRefused() {
        for (int slot : NO_SLOTS) {
            Refused.due(BAD, bench -> bench.accepts(slot));
        }
    }

    @Says(promise = 16, text = "MISMATCH if the word has a letter that the automaton does not have.")
    static void acceptsMismatch() {
        mismatch(bench -> bench.accepts(0));
        Bench bench = new Bench();
        bench.initial(0, "t");
        bench.push(1);
        Due.is("also if all words are accepted", MISMATCH, bench.accepts(0));
    }

    // Promise 17

    @Says(promise = 17, text = "- `start`: the number of letters read, 0 to the length of the word")
    static void rankStart() {
        Bench bench = staying(2);
        bench.word(FULL_WORD);
        for (int start = 0; start <= 12; start++) {
            Due.is("won from " + start, 12 - start, bench.rank(0, start, 0));
            Due.is("lost from " + start, 10000 + 12 - start, bench.rank(0, start, 1));
        }
        Due.is("13", BAD, bench.rank(0, 13, 0));
        Due.is("-1", BAD, bench.rank(0, -1, 0));
        bench.clearWord();
        Due.is("the empty word", 0, bench.rank(0, 0, 0));
        Due.is("beyond the empty word", BAD, bench.rank(0, 1, 0));
    }

    @Says(promise = 17, text = "Returns the rank if the automaton can force a win;")
    static void rankWon() {
        Bench bench = staying(3);
        bench.move(0, 2, 0, "f|(f|(0&0))");
        bench.word("0");
        Due.is("has won", 0, bench.rank(0, 1, 0));
        Due.is("one move", 1, bench.rank(0, 0, 0));
        Due.is("to the formula, right, right and to a part", 4, bench.rank(0, 0, 2));
    }

    @Says(promise = 17, text = "10000 plus the rank if the opponent can;")
    static void rankLost() {
        Bench bench = staying(3);
        bench.move(0, 2, 0, "t&(t&(1|1))");
        bench.word("0");
        Due.is("has lost", 10000, bench.rank(0, 1, 1));
        Due.is("one move", 10001, bench.rank(0, 0, 1));
        Due.is("to the formula, right, right and to a part", 10004, bench.rank(0, 0, 2));
    }

    @Says(promise = 17, text = "BAD_ARGUMENT if there is no such slot or state or start is out of range;")
    static void rankRefused() {
        for (int slot : NO_SLOTS) {
            Refused.due(BAD, bench -> bench.rank(slot, 0, 0));
        }
        for (int state : new int[] {-1, 3, 6, MIN, MAX}) {
            Refused.due(BAD, bench -> bench.rank(0, 0, state));
        }
        for (int start : new int[] {-1, 3, 13, MIN, MAX}) {
            Refused.due(BAD, bench -> bench.rank(0, start, 0));
        }
    }

    @Says(promise = 17, text = "MISMATCH if the word has a letter that the automaton does not have.")
    static void rankMismatch() {
        mismatch(bench -> bench.rank(0, 0, 0));
        mismatch(bench -> bench.rank(0, 1, 2));
        Refused.due(MISMATCH, bench -> bench.word("200"), bench -> bench.rank(0, 1, 0));
        Refused.due(MISMATCH, bench -> bench.word("200"), bench -> bench.rank(0, 3, 0));
    }

    // Promise 18

    @Says(promise = 18, text = "Returns the states to which the strategy of the automaton leads in the game on the "
        + "word: all "
        + "states q such that a play from (start, state) in which the automaton follows the strategy can reach the "
        + "position "
        + "(start + 1, q).")
    static void strategyStates() {
        Bench bench = staying(6);
        bench.finals(0, 1, 2, 3, 4);
        bench.word("00");
        String[] formulas = {"t", "0", "1&2", "1&(2&3)&t", "t|1", "1|5", "5|1", "(1|2)&(3|4)", "1&1", "(1|5)&(5|2)", "1&t|2"};
        int[] due = {0, 1, 6, 14, 0, 2, 2, 10, 2, 6, 4};
        for (int i = 0; i < due.length; i++) {
            bench.move(0, 5, 0, formulas[i]);
            Due.is(formulas[i], due[i], bench.strategy(0, 1, 5));
        }
        // State 1 is won more quickly by letter 1 and lost by letter 0; the choice comes before letter 1 is read.
        Bench later = staying(3);
        later.move(0, 0, 0, "1|2");
        later.move(0, 1, 0, "f");
        later.move(0, 1, 1, "t");
        later.move(0, 2, 0, "t");
        later.move(0, 2, 1, "t|t");
        later.word("01");
        Due.is("ranks of the positions after the letter", 2, later.strategy(0, 0, 0));
    }

    @Says(promise = 18, text = "- `start`: the number of letters read, less than the length of the word")
    static void strategyStart() {
        Bench bench = staying(2);
        bench.word(FULL_WORD);
        for (int start = 0; start < 12; start++) {
            Due.is("start " + start, 1, bench.strategy(0, start, 0));
        }
        Due.is("12", BAD, bench.strategy(0, 12, 0));
        Due.is("13", BAD, bench.strategy(0, 13, 0));
        Due.is("-1", BAD, bench.strategy(0, -1, 0));
        bench.word("0");
        Due.is("one letter", 1, bench.strategy(0, 0, 0));
        Due.is("beyond it", BAD, bench.strategy(0, 1, 0));
        bench.clearWord();
        Due.is("the empty word", BAD, bench.strategy(0, 0, 0));
    }

    @Says(promise = 18, text = "BAD_ARGUMENT if there is no such slot or state or start is out of range;")
    static void strategyRefused() {
        for (int slot : NO_SLOTS) {
            Refused.due(BAD, bench -> bench.strategy(slot, 0, 0));
        }
        for (int state : new int[] {-1, 3, 6, MIN, MAX}) {
            Refused.due(BAD, bench -> bench.strategy(0, 0, state));
        }
        for (int start : new int[] {-1, 2, 3, 12, MIN, MAX}) {
            Refused.due(BAD, bench -> bench.strategy(0, start, 0));
        }
        Refused.due(BAD, bench -> bench.clearWord(), bench -> bench.strategy(0, 0, 0));
    }

    @Says(promise = 18, text = "MISMATCH if the word has a letter that the automaton does not have;")
    static void strategyMismatch() {
        mismatch(bench -> bench.strategy(0, 0, 0));
        Refused.due(MISMATCH, bench -> bench.word("200"), bench -> bench.strategy(0, 2, 0));
        Refused.due(MISMATCH, bench -> bench.word("002"), bench -> bench.strategy(0, 0, 1));
    }

    @Says(promise = 18, text = "NONE if the automaton cannot force a win from (start, state).")
    static void strategyNone() {
        Bench bench = staying(3);
        bench.move(0, 2, 0, "0&1");
        bench.move(0, 2, 1, "0|1");
        bench.word("01");
        Due.is("a lost state", NONE, bench.strategy(0, 0, 1));
        Due.is("a lost state at the last letter", NONE, bench.strategy(0, 1, 1));
        Due.is("a lost conjunction", NONE, bench.strategy(0, 0, 2));
        Due.is("a won disjunction", 1, bench.strategy(0, 1, 2));
        bench.setFinal(0, 0, 0);
        Due.is("won no more", NONE, bench.strategy(0, 1, 2));
        Due.is("nor this", NONE, bench.strategy(0, 0, 0));
    }

    // Promise 19

    @Says(promise = 19, text = "- `set`: the set of states")
    static void reverseStepSets() {
        for (int states = 1; states <= 6; states++) {
            Bench bench = staying(states);
            int all = (1 << states) - 1;
            Due.is("the empty set", 0, bench.reverseStep(0, 0, 0));
            Due.is("all states", all, bench.reverseStep(0, 1, all));
            Due.is("more states", BAD, bench.reverseStep(0, 0, all + 1));
            Due.is("other bits", BAD, bench.reverseStep(0, 0, 1 << 20));
        }
    }

    @Says(promise = 19, text = "BAD_ARGUMENT if there is no such slot or letter or set is not a set of states of the "
        + "automaton.")
    static void reverseStepRefused() {
        for (int slot : NO_SLOTS) {
            Refused.due(BAD, bench -> bench.reverseStep(slot, 0, 0));
        }
        for (int letter : new int[] {-1, 2, 3, MIN, MAX}) {
            Refused.due(BAD, bench -> bench.reverseStep(0, letter, 0));
        }
        for (int set : new int[] {-1, 8, 64, MIN, MAX}) {
            Refused.due(BAD, bench -> bench.reverseStep(0, 0, set));
        }
        Refused.due(BAD, bench -> bench.reverseStep(1, 3, 0));
        Refused.due(BAD, bench -> bench.reverseStep(1, 0, 64));
    }

    // Promise 20

    /** Slot 0 with a rotation, a swap and a join or a meet: from one state to almost all sets. */
    private static Bench allSets(String joined) {
        Bench bench = large();
        for (int state = 0; state < 6; state++) {
            bench.move(0, state, 0, String.valueOf((state + 1) % 6));
            bench.move(0, state, 1, String.valueOf(state == 0 ? 1 : state == 1 ? 0 : state));
            bench.move(0, state, 2, state == 0 ? joined : String.valueOf(state));
        }
        bench.finals(0, 0);
        return bench;
    }

    @Says(promise = 20, text = "Returns the number of sets that the reverse automaton can reach, the set in which it "
        + "starts "
        + "included.")
    static void reverseStatesNumber() {
        Due.is("a new automaton: the empty set", 1, new Bench().reverseStates(0));
        Due.is("the set of final states and no other", 1, staying(6).reverseStates(0));
        Bench away = new Bench();
        away.finals(0, 0);
        Due.is("{0} and the empty set", 2, away.reverseStates(0));
        Bench fromEmpty = new Bench();
        fromEmpty.move(0, 0, 0, "t");
        Due.is("the empty set and {0}", 2, fromEmpty.reverseStates(0));
        // What the automaton before did by a letter that this one does not have must not matter.
        Bench afterAnother = new Bench();
        afterAnother.create(0, 1, 2);
        afterAnother.move(0, 0, 1, "t");
        Due.is("by the second letter", 2, afterAnother.reverseStates(0));
        Due.is("an automaton with one letter after it", 1, afterAnother.reverseStates(1));
        Due.is("all sets but the empty one", 63, allSets("0|1").reverseStates(0));
        Bench all = allSets("(0|1)&2");
        all.finals(0, 1);
        Due.is("all sets", 64, all.reverseStates(0));
        for (int states = 1; states <= 6; states++) {
            Bench bench = rotation(states);
            bench.finals(0, 0);
            Due.is("round", states, bench.reverseStates(0));
        }
    }

    @Says(promise = 20, text = "BAD_ARGUMENT if there is no such slot.")
    static void reverseStatesRefused() {
        for (int slot : NO_SLOTS) {
            Refused.due(BAD, bench -> bench.reverseStates(slot));
        }
    }

    // Promise 21

    @Says(promise = 21, text = "Returns the number of classes of sets that the reverse automaton can reach, where "
        + "two sets are "
        + "in the same class if the same words lead from both to an accepting set.")
    static void reverseClassesNumber() {
        Due.is("a new automaton", 1, new Bench().reverseClasses(0));
        Bench bench = allSets("0|1");
        Due.is("no set is accepting", 1, bench.reverseClasses(0));
        bench.initial(0, "t");
        Due.is("all sets are accepting", 1, bench.reverseClasses(0));
        bench.initial(0, "0");
        Due.is("all are apart", 63, bench.reverseClasses(0));
        Bench all = allSets("(0|1)&2");
        all.finals(0, 1);
        all.initial(0, "0");
        Due.is("all 64 are apart", 64, all.reverseClasses(0));
        Bench round = rotation(6);
        round.finals(0, 0);
        String[] initial = {"0", "0|3", "0|2|4", "0|1", "0|1|2|3|4|5"};
        int[] due = {6, 3, 2, 6, 1};
        for (int i = 0; i < due.length; i++) {
            round.initial(0, initial[i]);
            Due.is(initial[i], due[i], round.reverseClasses(0));
        }
        Bench toEmpty = new Bench();
        toEmpty.initial(0, "t");
        toEmpty.finals(0, 0);
        Due.is("{0} and the empty set are both accepting", 1, toEmpty.reverseClasses(0));
        toEmpty.initial(0, "0");
        Due.is("only {0} is accepting", 2, toEmpty.reverseClasses(0));
        Bench afterAnother = new Bench();
        afterAnother.create(0, 2, 2);
        afterAnother.move(0, 1, 1, "1");
        afterAnother.create(1, 2, 1);
        afterAnother.move(1, 0, 0, "1");
        afterAnother.move(1, 1, 0, "0");
        afterAnother.initial(1, "0|1");
        afterAnother.finals(1, 0);
        Due.is("an automaton with two letters", 1, afterAnother.reverseClasses(0));
        Due.is("one with one letter after it", 1, afterAnother.reverseClasses(1));
        // Only sets that are reached count: {1} alone would be a class of its own.
        Bench reached = new Bench();
        reached.create(0, 2, 1);
        reached.move(0, 0, 0, "0");
        reached.move(0, 1, 0, "1");
        reached.initial(0, "1");
        reached.finals(0, 0);
        Due.is("only reached sets", 1, reached.reverseClasses(0));
    }

    @Says(promise = 21, text = "BAD_ARGUMENT if there is no such slot.")
    static void reverseClassesRefused() {
        for (int slot : NO_SLOTS) {
            Refused.due(BAD, bench -> bench.reverseClasses(slot));
        }
    }

    // Promise 22

    @Says(promise = 22, text = "Returns the number of sets that the existential automaton can reach, the sets in "
        + "which it can "
        + "start included.")
    static void existentialStatesNumber() {
        Due.is("it cannot even start", 0, new Bench().existentialStates(0));
        Bench bench = new Bench();
        bench.initial(0, "t");
        Due.is("the empty set", 1, bench.existentialStates(0));
        bench.initial(0, "0");
        Due.is("{0} goes nowhere", 1, bench.existentialStates(0));
        bench.move(0, 0, 0, "0");
        Due.is("{0} goes to itself", 1, bench.existentialStates(0));
        bench.move(0, 0, 0, "t");
        Due.is("{0} goes to the empty set", 2, bench.existentialStates(0));
        Bench round = rotation(6);
        round.initial(0, "0");
        Due.is("round", 6, round.existentialStates(0));
        round.initial(0, "0&1");
        Due.is("two at a time", 6, round.existentialStates(0));
        round.initial(0, "0&1&2&3&4&5");
        Due.is("all at a time", 1, round.existentialStates(0));
        round.initial(0, "0|0&1");
        Due.is("only minimal models", 6, round.existentialStates(0));
        Bench all = allSets("0&1");
        all.initial(0, "0");
        Due.is("all sets but the empty one", 63, all.existentialStates(0));
        all.initial(0, "0|t");
        Due.is("only the empty set", 1, all.existentialStates(0));
    }

    @Says(promise = 22, text = "BAD_ARGUMENT if there is no such slot.")
    static void existentialStatesRefused() {
        for (int slot : NO_SLOTS) {
            Refused.due(BAD, bench -> bench.existentialStates(slot));
        }
    }

    // Promise 23

    @Says(promise = 23, text = "Returns the number of sets in which the existential automaton can be after it has "
        + "read the word.")
    static void existentialSetsNumber() {
        Bench bench = new Bench();
        Due.is("it cannot even start", 0, bench.existentialSets(0, 0));
        bench.initial(0, "0");
        Due.is("the empty word", 1, bench.existentialSets(0, 0));
        bench.push(0);
        Due.is("nowhere", 0, bench.existentialSets(0, 0));
        bench.move(0, 0, 0, "0");
        Due.is("it stays", 1, bench.existentialSets(0, 0));
        Bench wide = large();
        wide.initial(0, "0");
        wide.move(0, 0, 0, "0|1|2|3|4|5");
        wide.word("0");
        Due.is("six sets", 6, wide.existentialSets(0, 0));
        wide.push(0);
        Due.is("the others went nowhere", 6, wide.existentialSets(0, 0));
        wide.push(1);
        Due.is("all went nowhere", 0, wide.existentialSets(0, 0));
        Bench round = rotation(6);
        round.initial(0, "0|3");
        round.word("000000000000");
        Due.is("twelve letters", 2, round.existentialSets(0, 0));
    }

    @Says(promise = 23, text = "- `accepting`: 1 to count only accepting sets, 0 to count all sets")
    static void existentialSetsAccepting() {
        Bench bench = large();
        bench.initial(0, "0|1|2&3");
        bench.finals(0, 1, 2);
        Due.is("all sets", 3, bench.existentialSets(0, 0));
        Due.is("only {1}", 1, bench.existentialSets(0, 1));
        bench.setFinal(0, 1, 0);
        Due.is("none", 0, bench.existentialSets(0, 1));
        Due.is("all sets still", 3, bench.existentialSets(0, 0));
    }

    @Says(promise = 23, text = "BAD_ARGUMENT if there is no such slot or accepting is not 0 or 1;")
    static void existentialSetsRefused() {
        for (int slot : NO_SLOTS) {
            Refused.due(BAD, bench -> bench.existentialSets(slot, 0));
            Refused.due(BAD, bench -> bench.existentialSets(slot, 1));
        }
        for (int accepting : new int[] {-1, 2, MIN, MAX}) {
            Refused.due(BAD, bench -> bench.existentialSets(0, accepting));
        }
    }

    @Says(promise = 23, text = "MISMATCH if the word has a letter that the automaton does not have.")
    static void existentialSetsMismatch() {
        mismatch(bench -> bench.existentialSets(0, 0));
        mismatch(bench -> bench.existentialSets(0, 1));
    }

    // Promise 24

    @Says(promise = 24, text = "Returns the states that matter: the smallest set of states that contains all states "
        + "in the "
        + "initial formula and all states in the transition formulas of its states.")
    static void relevantStatesSet() {
        Bench bench = rotation(6);
        Due.is("no state in the initial formula", 0, bench.relevantStates(0));
        bench.initial(0, "t");
        Due.is("still none", 0, bench.relevantStates(0));
        bench.initial(0, "5");
        Due.is("all, one after the other", 63, bench.relevantStates(0));
        bench.move(0, 5, 0, "f");
        Due.is("only 5", 32, bench.relevantStates(0));
        bench.initial(0, "0");
        bench.move(0, 3, 0, "t");
        Due.is("as far as formulas have states", 15, bench.relevantStates(0));
        bench.initial(0, "0&f");
        Due.is("a state in a formula that is never satisfied", 15, bench.relevantStates(0));
        bench.initial(0, "1&5|t");
        bench.move(0, 1, 0, "4|(t&3)");
        bench.move(0, 4, 0, "f");
        Due.is("all states of each formula", 58, bench.relevantStates(0));
        Bench backwards = new Bench();
        backwards.create(0, 6, 3);
        backwards.initial(0, "5");
        for (int state = 5; state > 0; state--) {
            backwards.move(0, state, state % 3, String.valueOf(state - 1));
        }
        Due.is("from higher to lower states by all letters", 63, backwards.relevantStates(0));
    }

    @Says(promise = 24, text = "BAD_ARGUMENT if there is no such slot.")
    static void relevantStatesRefused() {
        for (int slot : NO_SLOTS) {
            Refused.due(BAD, bench -> bench.relevantStates(slot));
        }
    }
}
