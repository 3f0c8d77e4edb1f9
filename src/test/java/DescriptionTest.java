/** A test for each sentence of the document's part "Description" that names a boundary; the errors have their own. */
public final class DescriptionTest {
    private static final int NONE = -1;
    private static final int BAD = -2;
    private static final int FULL = -3;
    private static final int MIN = Integer.MIN_VALUE;
    private static final int MAX = Integer.MAX_VALUE;

    private DescriptionTest() {
    }

    public static void main(String[] args) throws ReflectiveOperationException {
        Sentences.runAll(DescriptionTest.class);
    }

    /** A bench whose slot 0 has 6 states and 3 letters. */
    private static Bench large() {
        Bench bench = new Bench();
        bench.create(0, 6, 3);
        return bench;
    }

    @Says(promise = 0, text = "There are 3 slots, numbered from 0, each of which holds an automaton.")
    static void threeSlots() {
        Bench bench = new Bench();
        for (int slot = 0; slot < 3; slot++) {
            Due.is("slot " + slot, 1, bench.create(slot, slot + 2, slot + 1));
        }
        for (int slot = 0; slot < 3; slot++) {
            Due.is("states of slot " + slot, slot + 2, bench.property(slot, 0));
            Due.is("letters of slot " + slot, slot + 1, bench.property(slot, 1));
        }
        Due.is("slot -1", BAD, bench.property(-1, 0));
        Due.is("slot 3", BAD, bench.property(3, 0));
    }

    @Says(promise = 0, text = "An automaton has 1 to 6 states, numbered from 0, and 1 to 3 letters, numbered from 0;")
    static void statesAndLetters() {
        for (int states = 1; states <= 6; states++) {
            for (int letters = 1; letters <= 3; letters++) {
                Bench bench = new Bench();
                Due.is("create", 1, bench.create(0, states, letters));
                Due.is("state 0", 1, bench.setFinal(0, 0, 1));
                Due.isNot("last state", BAD, bench.setFinal(0, states - 1, 1));
                Due.is("state after the last", BAD, bench.setFinal(0, states, 1));
                Due.is("state before the first", BAD, bench.setFinal(0, -1, 1));
                Due.is("letter 0", 1, bench.setWeight(0, 0, 1));
                Due.is("last letter", 1, bench.setWeight(0, letters - 1, 1));
                Due.is("letter after the last", BAD, bench.setWeight(0, letters, 1));
                Due.is("letter before the first", BAD, bench.setWeight(0, -1, 1));
            }
        }
        Bench bench = new Bench();
        Due.is("no states", BAD, bench.create(0, 0, 1));
        Due.is("seven states", BAD, bench.create(0, 7, 1));
        Due.is("no letters", BAD, bench.create(0, 1, 0));
        Due.is("four letters", BAD, bench.create(0, 1, 4));
    }

    @Says(promise = 0, text = "a set of final states;")
    static void setOfFinalStates() {
        Bench bench = large();
        for (int set = 0; set < 64; set++) {
            for (int state = 0; state < 6; state++) {
                bench.setFinal(0, state, set >> state & 1);
            }
            Due.is("final states", set, bench.property(0, 2));
        }
    }

    @Says(promise = 0, text = "for each state and each letter a transition formula;")
    static void transitionFormulasAreApart() {
        Bench bench = large();
        bench.initial(0, "t&f");
        for (int state = 0; state < 6; state++) {
            for (int letter = 0; letter < 3; letter++) {
                bench.move(0, state, letter, state + "|" + letter);
            }
        }
        for (int state = 0; state < 6; state++) {
            for (int letter = 0; letter < 3; letter++) {
                Due.is("formula", state + "|" + letter, bench.shown(0, state, letter));
            }
        }
        Due.is("initial formula", "t&f", bench.shown(0, -1, 0));
    }

    @Says(promise = 0, text = "and for each letter a weight from 1 to 9.")
    static void weights() {
        Bench bench = large();
        for (int letter = 0; letter < 3; letter++) {
            for (int weight = 1; weight <= 9; weight++) {
                bench.setWeight(0, letter, weight);
                Due.is("weight", weight, bench.property(0, 3 + letter));
            }
            Due.is("weight 0", BAD, bench.setWeight(0, letter, 0));
            Due.is("weight 10", BAD, bench.setWeight(0, letter, 10));
            bench.setWeight(0, letter, 2 + letter);
        }
        for (int letter = 0; letter < 3; letter++) {
            Due.is("weights are apart", 2 + letter, bench.property(0, 3 + letter));
        }
    }

    @Says(promise = 0, text = "The automaton that every slot holds at first has 1 state and 1 letter, no final "
        + "states, "
        + "the formula false as its initial formula and its transition formula, and weight 1.")
    static void atFirst() {
        int[] due = {1, 1, 0, 1, NONE, NONE};
        for (int slot = 0; slot < 3; slot++) {
            Bench bench = new Bench();
            for (int what = 0; what < 6; what++) {
                Due.is("property " + what, due[what], bench.property(slot, what));
            }
            Due.is("initial formula", "f", bench.shown(slot, -1, 0));
            Due.is("transition formula", "f", bench.shown(slot, 0, 0));
            Due.is("no second state", BAD, bench.print(slot, 1, 0));
            Due.is("no second letter", BAD, bench.print(slot, 0, 1));
            Due.is("language", NONE, bench.findCheapest(slot));
        }
    }

    @Says(promise = 0, text = "Sets of states are bit masks, bit p for state p.")
    static void bitMasks() {
        Bench bench = large();
        for (int state = 0; state < 6; state++) {
            Due.is("final states", 1 << state, bench.setFinal(0, state, 1));
            bench.setFinal(0, state, 0);
            bench.initial(0, String.valueOf(state));
            Due.is("minimal model", 1 << state, bench.model(0, -1, 0, 0));
            Due.is("relevant states", 1 << state, bench.relevantStates(0));
            Due.is("only this state", 1, bench.isSatisfied(0, -1, 0, 1 << state));
            Due.is("all other states", 0, bench.isSatisfied(0, -1, 0, 63 - (1 << state)));
            bench.move(0, state, 0, "t");
            Due.is("reverse step", 1 << state, bench.reverseStep(0, 0, 0));
            bench.move(0, state, 0, "f");
        }
    }

    @Says(promise = 0, text = "The nodes of a formula are itself and the nodes of its parts;")
    static void nodes() {
        Bench bench = large();
        Due.is("true", 1, bench.initial(0, "t"));
        Due.is("false", 1, bench.initial(0, "f"));
        Due.is("state", 1, bench.initial(0, "5"));
        Due.is("two parts", 3, bench.initial(0, "t|f"));
        Due.is("the same part twice", 3, bench.initial(0, "0&0"));
        Due.is("parentheses are no nodes", 5, bench.initial(0, "((0)&((1|2)))"));
    }

    @Says(promise = 0, text = "a formula has at most 40 nodes.")
    static void atMostForty() {
        // The number of nodes is always odd, so 39 is the largest one and 41 the first that is too large.
        String largest = "0|".repeat(19) + "1";
        String tooLarge = "0|".repeat(20) + "1";
        Bench bench = large();
        Due.is("39 nodes, initial", 39, bench.initial(0, largest));
        Due.is("39 nodes, transition", 39, bench.move(0, 5, 2, largest));
        Due.is("41 nodes, initial", FULL, bench.initial(0, tooLarge));
        Due.is("41 nodes, transition", FULL, bench.move(0, 5, 2, tooLarge));
        Due.is("initial formula", largest, bench.shown(0, -1, 0));
        Due.is("transition formula", largest, bench.shown(0, 5, 2));
        Bench other = new Bench();
        other.initial(0, "0&".repeat(9) + "0");
        other.initial(1, "0&".repeat(9) + "0");
        Due.is("19 and 19 nodes and one", 2, other.combine(0, 1, 2, 0));
        other.initial(1, "0&".repeat(10) + "0");
        Due.is("19 and 21 nodes and one", FULL, other.combine(0, 1, 2, 0));
    }

    @Says(promise = 0, text = "A set of states satisfies true;")
    static void satisfiesTrue() {
        Bench bench = large();
        bench.initial(0, "t");
        for (int set = 0; set < 64; set++) {
            Due.is("set " + set, 1, bench.isSatisfied(0, -1, 0, set));
        }
    }

    @Says(promise = 0, text = "it does not satisfy false;")
    static void satisfiesNotFalse() {
        Bench bench = large();
        for (int set = 0; set < 64; set++) {
            Due.is("set " + set, 0, bench.isSatisfied(0, -1, 0, set));
        }
    }

    @Says(promise = 0, text = "it satisfies a state if it contains it;")
    static void satisfiesStates() {
        Bench bench = large();
        for (int state = 0; state < 6; state++) {
            bench.initial(0, String.valueOf(state));
            for (int set = 0; set < 64; set++) {
                Due.is("state " + state + " in " + set, set >> state & 1, bench.isSatisfied(0, -1, 0, set));
            }
        }
    }

    @Says(promise = 0, text = "it satisfies a conjunction if it satisfies both parts, and a disjunction if it "
        + "satisfies "
        + "at least one part.")
    static void satisfiesBothOrOne() {
        Bench bench = large();
        bench.move(0, 0, 0, "1&4");
        bench.move(0, 0, 1, "1|4");
        for (int set = 0; set < 64; set++) {
            int one = set >> 1 & 1;
            int other = set >> 4 & 1;
            Due.is("conjunction, set " + set, one & other, bench.isSatisfied(0, 0, 0, set));
            Due.is("disjunction, set " + set, one | other, bench.isSatisfied(0, 0, 1, set));
        }
    }

    @Says(promise = 0, text = "A minimal model of a formula is a set that satisfies it while no proper subset of it "
        + "does.")
    static void minimalModels() {
        Bench bench = large();
        bench.initial(0, "t|0");
        Due.is("true has one", 1, bench.model(0, -1, 0, -1));
        Due.is("the empty set", 0, bench.model(0, -1, 0, 0));
        bench.initial(0, "f&0");
        Due.is("false has none", 0, bench.model(0, -1, 0, -1));
        bench.initial(0, "0|0&1|0&1&5");
        Due.is("a subset is enough", 1, bench.model(0, -1, 0, -1));
        Due.is("the subset", 1, bench.model(0, -1, 0, 0));
        bench.initial(0, "0&1&2&3&4&5");
        Due.is("all states", 63, bench.model(0, -1, 0, 0));
        bench.initial(0, "(0|1)&(1|2)&(2|0)");
        Due.is("any two of three", 3, bench.model(0, -1, 0, -1));
    }

    @Says(promise = 0, text = "Minimal models are ordered by the number of their states, then by their bit masks as "
        + "numbers.")
    static void orderOfModels() {
        Bench bench = large();
        bench.initial(0, "0&1&2|1&3|0&3|5|4");
        int[] due = {16, 32, 9, 10, 7};
        for (int i = 0; i < due.length; i++) {
            Due.is("model " + i, due[i], bench.model(0, -1, 0, i));
        }
        Due.is("number", due.length, bench.model(0, -1, 0, -1));
    }

    @Says(promise = 0, text = "A word is a sequence of letters, possibly empty.")
    static void emptyWord() {
        Bench bench = large();
        bench.initial(0, "0&5");
        bench.finals(0, 0, 5);
        Due.is("accepting states", 33, bench.acceptingStates(0, 0));
        Due.is("accepted", 1, bench.accepts(0));
        Due.is("rank", 0, bench.rank(0, 0, 5));
        Due.is("existential sets", 1, bench.existentialSets(0, 1));
        Due.is("cheapest", 0, bench.findCheapest(0));
        Due.is("count", 1, bench.countWords(0, 0));
    }

    @Says(promise = 0, text = "The empty word is accepted from a state if the state is final.")
    static void emptyWordFromStates() {
        Bench bench = large();
        // Transition formulas do not matter to the empty word.
        bench.moves(0, 1, 3, "t");
        for (int set = 0; set < 64; set++) {
            for (int state = 0; state < 6; state++) {
                bench.setFinal(0, state, set >> state & 1);
            }
            Due.is("final states " + set, set, bench.acceptingStates(0, 0));
        }
    }

    @Says(promise = 0, text = "The word that consists of a letter x and a word w is accepted from a state p if the "
        + "transition formula of p for x is satisfied by the set of all states from which w is accepted.")
    static void letterAndWord() {
        Bench bench = new Bench();
        bench.create(0, 3, 2);
        bench.move(0, 0, 0, "1");
        bench.move(0, 1, 1, "2");
        bench.move(0, 2, 0, "0&1|2");
        bench.finals(0, 2);
        bench.word("01");
        Due.is("1", 2, bench.acceptingStates(0, 1));
        Due.is("01", 1, bench.acceptingStates(0, 0));
        bench.word("10");
        Due.is("0", 4, bench.acceptingStates(0, 1));
        Due.is("10", 2, bench.acceptingStates(0, 0));
    }

    @Says(promise = 0, text = "A word is accepted by the automaton if the initial formula is satisfied by the set of "
        + "all "
        + "states from which the word is accepted.")
    static void acceptedByAutomaton() {
        Bench bench = large();
        bench.finals(0, 1, 2);
        String[] formulas = {"t", "f", "0", "1", "1&2", "0&1", "0|1", "0|3"};
        int[] due = {1, 0, 0, 1, 1, 0, 1, 0};
        for (int i = 0; i < due.length; i++) {
            bench.initial(0, formulas[i]);
            Due.is(formulas[i], due[i], bench.accepts(0));
        }
        bench.setFinal(0, 1, 0);
        bench.setFinal(0, 2, 0);
        bench.initial(0, "t");
        Due.is("accepted from no state, but by true", 1, bench.accepts(0));
    }

    @Says(promise = 0, text = "Words are ordered by their length, and words of the same length lexicographically.")
    static void orderOfWords() {
        // State 0 accepts by 2 or by 00, state 1 by 10 or by 02 or by 01.
        Bench bench = new Bench();
        bench.create(0, 6, 3);
        bench.create(1, 1, 3);
        bench.finals(0, 5);
        bench.move(0, 0, 2, "5");
        bench.move(0, 0, 0, "2");
        bench.move(0, 2, 0, "5");
        bench.move(0, 1, 1, "2");
        bench.move(0, 1, 0, "3");
        bench.move(0, 3, 2, "5");
        bench.initial(0, "0");
        Due.is("2 comes before 00", 1, bench.findDifference(0, 1));
        Due.is("2 comes before 00", "2", bench.foundWord());
        bench.initial(0, "1");
        Due.is("02 comes before 10", 2, bench.findDifference(0, 1));
        Due.is("02 comes before 10", "02", bench.foundWord());
        bench.move(0, 3, 1, "5");
        bench.findDifference(0, 1);
        Due.is("01 comes before 02", "01", bench.foundWord());
    }

    @Says(promise = 0, text = "The game on a word of n letters has as positions all pairs (i, p) of a number i from "
        + "0 to n "
        + "and a state p, and, for each such pair with i below n, all nodes of the transition formula of p for "
        + "letter i of "
        + "the word, where letters are counted from 0.")
    static void positions() {
        Bench bench = new Bench();
        bench.create(0, 2, 3);
        bench.move(0, 0, 0, "t");
        bench.move(0, 0, 1, "t|f|f");
        bench.finals(0, 0);
        bench.word("012");
        int[] due = {1, 3, 10001, 0};
        for (int i = 0; i <= 3; i++) {
            Due.is("(" + i + ", 0)", due[i], bench.rank(0, i, 0));
        }
        Due.is("(4, 0)", BAD, bench.rank(0, 4, 0));
        Due.is("(-1, 0)", BAD, bench.rank(0, -1, 0));
        Due.is("(0, 1)", 10001, bench.rank(0, 0, 1));
        Due.is("(0, 2)", BAD, bench.rank(0, 0, 2));
        bench.clearWord();
        Due.is("(0, 0) on the empty word", 0, bench.rank(0, 0, 0));
        Due.is("(1, 0) on the empty word", BAD, bench.rank(0, 1, 0));
    }

    /** State 0 goes by the text, states 1 to 4 stay, and only the given states are final. */
    private static Bench game(String text, String letters, int... finals) {
        Bench bench = new Bench();
        bench.create(0, 5, 1);
        bench.move(0, 0, 0, text);
        for (int state = 1; state < 5; state++) {
            bench.move(0, state, 0, String.valueOf(state));
        }
        bench.finals(0, finals);
        bench.word(letters);
        return bench;
    }

    @Says(promise = 0, text = "From (i, p) with i below n the play moves to the formula itself.")
    static void moveToFormula() {
        Due.is("to true", 1, game("t", "0").rank(0, 0, 0));
        Due.is("to false", 10001, game("f", "0").rank(0, 0, 0));
        Due.is("not with i equal to n", 10000, game("t", "0").rank(0, 1, 0));
        Due.is("not on the empty word", 0, game("f", "", 0).rank(0, 0, 0));
    }

    @Says(promise = 0, text = "From a disjunction the automaton moves to one of its parts, from a conjunction its "
        + "opponent does.")
    static void whoMoves() {
        Due.is("the automaton chooses true", 2, game("t|f", "0").rank(0, 0, 0));
        Due.is("the automaton chooses true", 2, game("f|t", "0").rank(0, 0, 0));
        Due.is("the opponent chooses false", 10002, game("t&f", "0").rank(0, 0, 0));
        Due.is("the opponent chooses false", 10002, game("f&t", "0").rank(0, 0, 0));
        Due.is("both false", 10002, game("f|f", "0").rank(0, 0, 0));
        Due.is("both true", 2, game("t&t", "0").rank(0, 0, 0));
    }

    @Says(promise = 0, text = "A node that is a state q is the same position as (i + 1, q).")
    static void stateIsPosition() {
        Bench bench = game("1", "000000000000", 1);
        for (int i = 0; i <= 12; i++) {
            Due.is("one move a letter, from " + i, 12 - i, bench.rank(0, i, 1));
        }
        Due.is("the same from state 0", 12, bench.rank(0, 0, 0));
        Due.is("a disjunction in between", 3, game("1|2", "00", 1).rank(0, 0, 0));
    }

    @Says(promise = 0, text = "The automaton wins at true and at (n, p) if p is final;")
    static void automatonWins() {
        Bench bench = game("t", "0", 1, 4);
        Due.is("true", 1, bench.rank(0, 0, 0));
        for (int state = 0; state < 5; state++) {
            Due.is("(n, " + state + ")", state == 1 || state == 4 ? 0 : 10000, bench.rank(0, 1, state));
        }
        Due.is("by a final state", 1, bench.rank(0, 0, 4));
    }

    @Says(promise = 0, text = "the opponent wins at false and at (n, p) otherwise.")
    static void opponentWins() {
        Bench bench = game("f", "0", 0);
        Due.is("false, though state 0 is final", 10001, bench.rank(0, 0, 0));
        Due.is("(n, 1)", 10000, bench.rank(0, 1, 1));
        Due.is("by a state that is not final", 10001, bench.rank(0, 0, 1));
    }

    @Says(promise = 0, text = "The rank of a position from which one player can force a win is the least number of "
        + "moves, "
        + "made by both players, within which this player can force it;")
    static void leastNumberOfMoves() {
        Due.is("the automaton takes the quick part", 2, game("1|t", "000", 1).rank(0, 0, 0));
        Due.is("the opponent drags it out", 4, game("1&t", "000", 1).rank(0, 0, 0));
        Due.is("the opponent takes the quick part", 10002, game("1&f", "000").rank(0, 0, 0));
        Due.is("the automaton drags it out", 10004, game("1|f", "000").rank(0, 0, 0));
        Due.is("only the won part counts", 4, game("f|1", "000", 1).rank(0, 0, 0));
        Due.is("only the won part counts", 10004, game("t&1", "000").rank(0, 0, 0));
        String deepest = "t&(".repeat(14) + "t&t" + ")".repeat(14);
        Due.is("as deep to the right as 59 characters go", 1 + 15, game(deepest, "0").rank(0, 0, 0));
        Bench slow = game("0&".repeat(19) + "0", "000000000000", 0);
        Due.is("the longest play", 12 * 20, slow.rank(0, 0, 0));
        Bench slowToLose = game("0|".repeat(19) + "0", "000000000000");
        Due.is("the longest lost play", 10000 + 12 * 20, slowToLose.rank(0, 0, 0));
    }

    @Says(promise = 0, text = "it is 0 where the player has won.")
    static void rankZero() {
        Bench bench = game("t", "", 1);
        Due.is("the automaton has won", 0, bench.rank(0, 0, 1));
        Due.is("the opponent has won", 10000, bench.rank(0, 0, 2));
    }

    @Says(promise = 0, text = "From a disjunction that is won by the automaton, the strategy moves to a part that is "
        + "won by "
        + "the automaton and that has the least rank of those, to the left one if both parts have the same.")
    static void strategyOfDisjunctions() {
        Due.is("the same rank", 2, game("1|2", "00", 1, 2).strategy(0, 0, 0));
        Due.is("the same rank", 4, game("2|1", "00", 1, 2).strategy(0, 0, 0));
        Due.is("three of the same rank: the right one has less", 8, game("1|2|3", "00", 1, 2, 3).strategy(0, 0, 0));
        Due.is("three of the same rank: the left one has less", 2, game("1|(2|3)", "00", 1, 2, 3).strategy(0, 0, 0));
        Due.is("only the right one is won", 4, game("1|2", "00", 2).strategy(0, 0, 0));
        Due.is("only the left one is won", 2, game("1|2", "00", 1).strategy(0, 0, 0));
        Due.is("the right one has the least rank", 0, game("1|t", "00", 1).strategy(0, 0, 0));
        Due.is("the left one has the least rank", 0, game("t|1", "00", 1).strategy(0, 0, 0));
        Due.is("a lost part of less rank does not count", 2, game("f|1", "00", 1).strategy(0, 0, 0));
        Due.is("the same rank with parts", 6, game("1&2|(3|4)", "00", 1, 2, 3, 4).strategy(0, 0, 0));
        Due.is("the same rank with parts", 8, game("(3|4)|1&2", "00", 1, 2, 3, 4).strategy(0, 0, 0));
    }

    @Says(promise = 0, text = "It starts in any minimal model of the initial formula.")
    static void existentialStart() {
        Bench bench = large();
        Due.is("false has no model", 0, bench.existentialSets(0, 0));
        bench.initial(0, "t");
        Due.is("true has the empty set", 1, bench.existentialSets(0, 0));
        bench.initial(0, "0|1&2|3&4&5|0&5");
        Due.is("three minimal models", 3, bench.existentialSets(0, 0));
        Due.is("all of them reached", 3, bench.existentialStates(0));
    }

    @Says(promise = 0, text = "From a set it goes by a letter to any minimal model of the conjunction of the "
        + "transition "
        + "formulas of all states of the set for this letter;")
    static void existentialStep() {
        Bench bench = large();
        bench.initial(0, "0&1");
        bench.move(0, 0, 0, "2|3");
        bench.move(0, 1, 0, "2|4");
        bench.move(0, 0, 1, "5");
        bench.word("0");
        Due.is("{2} and {3, 4}, but neither {2, 4} nor {2, 3}", 2, bench.existentialSets(0, 0));
        bench.finals(0, 2, 4);
        Due.is("{2} is accepting, {3, 4} is not", 1, bench.existentialSets(0, 1));
        bench.word("1");
        Due.is("5 and false", 0, bench.existentialSets(0, 0));
        bench.move(0, 1, 1, "t");
        Due.is("5 and true", 1, bench.existentialSets(0, 0));
    }

    @Says(promise = 0, text = "from the empty set it goes to the empty set.")
    static void existentialEmptySet() {
        Bench bench = large();
        bench.initial(0, "t");
        bench.word("012012012012");
        Due.is("all sets", 1, bench.existentialSets(0, 0));
        Due.is("accepting sets", 1, bench.existentialSets(0, 1));
        Due.is("reached", 1, bench.existentialStates(0));
        bench.initial(0, "0");
        bench.move(0, 0, 0, "t");
        Due.is("from {0} to the empty set", 2, bench.existentialStates(0));
        Due.is("by the first letter", 1, bench.existentialSets(0, 0));
    }

    @Says(promise = 0, text = "A set is accepting if all of its states are final.")
    static void existentialAccepting() {
        Bench bench = large();
        bench.initial(0, "0&1|4&5");
        Due.is("no state is final", 0, bench.existentialSets(0, 1));
        bench.finals(0, 0, 4);
        Due.is("one of two states is final", 0, bench.existentialSets(0, 1));
        bench.finals(0, 5);
        Due.is("both states of a set are final", 1, bench.existentialSets(0, 1));
        bench.finals(0, 1);
        Due.is("all states are final", 2, bench.existentialSets(0, 1));
        bench.initial(0, "t");
        for (int state = 0; state < 6; state++) {
            bench.setFinal(0, state, 0);
        }
        Due.is("the empty set has no state that is not final", 1, bench.existentialSets(0, 1));
    }

    @Says(promise = 0, text = "It starts in the set of final states.")
    static void reverseStart() {
        Bench bench = large();
        bench.initial(0, "5");
        for (int state = 0; state < 6; state++) {
            bench.move(0, state, 0, String.valueOf(state));
            bench.move(0, state, 1, String.valueOf(state));
            bench.move(0, state, 2, String.valueOf(state));
        }
        Due.is("the empty set is left nowhere", 1, bench.reverseStates(0));
        bench.finals(0, 5);
        Due.is("{5} is left nowhere", 1, bench.reverseStates(0));
        bench.move(0, 0, 0, "5");
        Due.is("{5} and {0, 5}", 2, bench.reverseStates(0));
        bench.finals(0, 0);
        Due.is("only {0, 5}", 1, bench.reverseStates(0));
    }

    @Says(promise = 0, text = "From a set S it goes by a letter to the set of all states whose transition formulas "
        + "for this "
        + "letter are satisfied by S.")
    static void reverseGoes() {
        Bench bench = large();
        bench.move(0, 0, 2, "t");
        bench.move(0, 5, 2, "0&1");
        Due.is("from the empty set", 1, bench.reverseStep(0, 2, 0));
        Due.is("from {0, 1}", 33, bench.reverseStep(0, 2, 3));
        Due.is("from all states", 33, bench.reverseStep(0, 2, 63));
        Due.is("by another letter", 0, bench.reverseStep(0, 1, 63));
    }

    @Says(promise = 0, text = "A set is accepting if it satisfies the initial formula.")
    static void reverseAccepting() {
        Bench bench = new Bench();
        bench.create(0, 2, 1);
        bench.move(0, 0, 0, "1");
        bench.move(0, 1, 0, "0");
        bench.finals(0, 0);
        bench.initial(0, "0|1");
        Due.is("{0} and {1} are accepting", 1, bench.reverseClasses(0));
        bench.initial(0, "0");
        Due.is("{0} is, {1} is not", 2, bench.reverseClasses(0));
        bench.initial(0, "0&1");
        Due.is("neither is", 1, bench.reverseClasses(0));
    }

    @Says(promise = 0, text = "It reads words from their last letter to their first one.")
    static void reverseReadsBackwards() {
        // The word 01 and no other one: backwards the sets are {2}, {1}, {0}.
        Bench bench = new Bench();
        bench.create(0, 3, 2);
        bench.initial(0, "0");
        bench.move(0, 0, 0, "1");
        bench.move(0, 1, 1, "2");
        bench.finals(0, 2);
        Due.is("the last letter first", 2, bench.reverseStep(0, 1, 4));
        Due.is("then the first letter", 1, bench.reverseStep(0, 0, 2));
        Due.is("the first letter first", 0, bench.reverseStep(0, 0, 4));
        bench.word("01");
        Due.is("as the word is accepted", 1, bench.acceptingStates(0, 0));
        Due.is("the three and the empty set", 4, bench.reverseStates(0));
    }

    @Says(promise = 0, text = "A text of at most 60 characters describes a formula.")
    static void textLimit() {
        Bench bench = large();
        Due.is("60 characters", 60, bench.append('(', 60));
        Due.is("one more", FULL, bench.append('(', 1));
        Due.is("all 60 are read", -160, bench.setInitial(0));
        // A formula has an odd number of characters, so 59 is the longest.
        String longest = "(".repeat(29) + "5" + ")".repeat(29);
        Due.is("59 characters", 1, bench.initial(0, longest));
        Due.is("formula", "5", bench.shown(0, -1, 0));
        bench.type(longest);
        bench.append('&', 1);
        Due.is("60 characters that end too early", -160, bench.setInitial(0));
        bench.type(longest);
        bench.append(')', 1);
        Due.is("the last of 60 characters is wrong", -159, bench.setInitial(0));
    }

    @Says(promise = 0, text = "formula: term { | term } term: factor { & factor } factor: t, or f, or a digit, or ( "
        + "formula )")
    static void grammar() {
        Bench bench = large();
        String[] texts = {"t", "f", "0", "(t)", "t|f", "t&f", "0|1&2|3", "0&1|2&3", "(0|1)&(2|3)", "((0))", "(0|1)|(2&3)"};
        int[] nodes = {1, 1, 1, 1, 3, 3, 7, 7, 7, 1, 7};
        for (int i = 0; i < texts.length; i++) {
            Due.is(texts[i], nodes[i], bench.initial(0, texts[i]));
        }
        bench.initial(0, "0|1&2");
        Due.is("& binds more tightly than |", 1, bench.isSatisfied(0, -1, 0, 1));
        bench.initial(0, "1&2|0");
        Due.is("& binds more tightly than |", 1, bench.isSatisfied(0, -1, 0, 1));
        bench.initial(0, "(0|1)&2");
        Due.is("parentheses bind most tightly", 0, bench.isSatisfied(0, -1, 0, 1));
        String[] wrong = {"", "()", "&", "|", "0&", "0|", "&0", "|0", "0&&1", "0||1", "(", ")", "00", "0t", "(0)(1)"};
        int[] offsets = {0, 1, 0, 0, 2, 2, 0, 0, 2, 2, 1, 0, 1, 1, 3};
        for (int i = 0; i < wrong.length; i++) {
            Due.is("\"" + wrong[i] + "\"", -100 - offsets[i], bench.initial(0, wrong[i]));
        }
    }

    @Says(promise = 0, text = "There are no spaces.")
    static void noSpaces() {
        Bench bench = large();
        String[] wrong = {" ", " 0", "0 ", "0 |1", "0| 1", "( 0)", "(0 )"};
        int[] offsets = {0, 0, 1, 1, 2, 1, 2};
        for (int i = 0; i < wrong.length; i++) {
            Due.is("\"" + wrong[i] + "\"", -100 - offsets[i], bench.initial(0, wrong[i]));
        }
        int[] others = {0, 9, 10, 13, 127};
        for (int code : others) {
            bench.append('0', 1);
            bench.append(code, 1);
            Due.is("character " + code, -101, bench.setInitial(0));
        }
    }

    @Says(promise = 0, text = "t is true, f is false, and a digit is the state with this number.")
    static void leaves() {
        Bench bench = large();
        bench.initial(0, "t");
        Due.is("t", 1, bench.isSatisfied(0, -1, 0, 0));
        bench.initial(0, "f");
        Due.is("f", 0, bench.isSatisfied(0, -1, 0, 63));
        for (int state = 0; state < 6; state++) {
            bench.initial(0, String.valueOf(state));
            Due.is("digit " + state, 1 << state, bench.model(0, -1, 0, 0));
        }
        Due.is("T", -100, bench.initial(0, "T"));
        Due.is("F", -100, bench.initial(0, "F"));
    }

    @Says(promise = 0, text = "a | b | c is the disjunction of a | b and c, and in the same way for conjunctions.")
    static void chainsLeanLeft() {
        Bench bench = large();
        String[] texts = {"0|1|2", "(0|1)|2", "0|(1|2)", "0&1&2", "(0&1)&2", "0&(1&2)", "0|1|2|3", "0&1&2&3"};
        String[] due = {"0|1|2", "0|1|2", "0|(1|2)", "0&1&2", "0&1&2", "0&(1&2)", "0|1|2|3", "0&1&2&3"};
        for (int i = 0; i < texts.length; i++) {
            bench.initial(0, texts[i]);
            Due.is(texts[i], due[i], bench.shown(0, -1, 0));
        }
        // The last part of a chain is nearest to the formula itself.
        Due.is("the last part of a disjunction", 2, game("f|f|t", "0").rank(0, 0, 0));
        Due.is("the first part of a disjunction", 3, game("t|f|f", "0").rank(0, 0, 0));
        Due.is("the last part of a conjunction", 10002, game("t&t&f", "0").rank(0, 0, 0));
        Due.is("the first part of a conjunction", 10003, game("f&t&t", "0").rank(0, 0, 0));
    }

    @Says(promise = 0, text = "The error offset of a text is the offset of the first character that cannot continue "
        + "a "
        + "formula, or the length of the text if it ends too early;")
    static void errorOffset() {
        Bench bench = large();
        String[] texts = {"", "x", "0x", "0|x", "(x", "(0x", "(0|1x", "0)", "(0))", "0|1)", "(0)(", "0(1)", "tt", "0|(1&(2|",
            "(((", "(0", "((0)", "0&", "x(((", "0|)", "(|0)", "0|1&2&3|4|5&x"};
        int[] offsets = {0, 0, 1, 2, 1, 2, 4, 1, 3, 3, 3, 1, 1, 8, 3, 2, 4, 2, 0, 2, 1, 12};
        for (int i = 0; i < texts.length; i++) {
            Due.is("\"" + texts[i] + "\"", -100 - offsets[i], bench.initial(0, texts[i]));
        }
        Bench longer = large();
        longer.append('(', 59);
        longer.append(')', 1);
        Due.is("the last of 60", -159, longer.setInitial(0));
        longer.append('0', 60);
        Due.is("the second of 60", -101, longer.setInitial(0));
        longer.append(')', 60);
        Due.is("the first of 60", -100, longer.setInitial(0));
    }

    @Says(promise = 0, text = "a digit that is not a state of the automaton cannot continue one either.")
    static void digitsThatAreNoStates() {
        for (int states = 1; states <= 6; states++) {
            Bench bench = new Bench();
            bench.create(0, states, 1);
            for (int digit = 0; digit <= 9; digit++) {
                int due = digit < states ? 3 : -102;
                Due.is("digit " + digit + " of " + states, due, bench.initial(0, "0|" + digit));
                Due.is("digit " + digit + " of " + states, due, bench.move(0, 0, 0, "t&" + digit));
            }
        }
        Bench bench = new Bench();
        Due.is("the character after 9", -100, bench.initial(0, ":"));
        Due.is("the character before 0", -100, bench.initial(0, "/"));
    }

    @Says(promise = 0, text = "A formula is printed in the same form with a pair of parentheses around each part "
        + "that is a "
        + "disjunction in a conjunction, and around each right part that is a conjunction in a conjunction or a "
        + "disjunction in a disjunction, and without other parentheses.")
    static void parentheses() {
        String[] texts = {"(0)", "(0|1)&2", "0&(1|2)", "(0|1)&(2|3)", "(0&1)&2", "0&(1&2)", "(0|1)|2", "0|(1|2)",
            "(0&1)|2", "0|(1&2)", "(0&1)|(2&3)", "(0&1)&(2&3)", "(0|1)|(2|3)", "((0|1))&((t))", "0&((1&2)|3)"};
        String[] due = {"0", "(0|1)&2", "0&(1|2)", "(0|1)&(2|3)", "0&1&2", "0&(1&2)", "0|1|2", "0|(1|2)",
            "0&1|2", "0|1&2", "0&1|2&3", "0&1&(2&3)", "0|1|(2|3)", "(0|1)&t", "0&(1&2|3)"};
        for (int i = 0; i < texts.length; i++) {
            Bench bench = large();
            bench.initial(0, texts[i]);
            Due.is(texts[i], due[i], bench.shown(0, -1, 0));
            bench.initial(0, due[i]);
            Due.is("read again", due[i], bench.shown(0, -1, 0));
        }
        // With 19 operators at most 18 parts can have parentheses.
        Bench bench = large();
        String deep = "0|(1|(2|(3|(4|(5|(0|(1|(2|(3|4)))))))))";
        bench.initial(0, deep);
        Due.is("deep", deep, bench.shown(0, -1, 0));
    }

    @Says(promise = 0, text = "There is a word of at most 12 letters, which is empty at first, and a found word, "
        + "which is "
        + "empty at first and has the cost 0.")
    static void wordAndFoundWord() {
        Bench bench = new Bench();
        Due.is("found word", NONE, bench.foundLetter(0));
        Due.is("cost", 0, bench.foundCost());
        Due.is("word", 0, bench.clearWord());
        for (int length = 1; length <= 12; length++) {
            Due.is("push", length, bench.push(0));
        }
        Due.is("one more", FULL, bench.push(0));
        Due.is("word", 12, bench.clearWord());
        Due.is("the found word is another", NONE, bench.foundLetter(0));
    }

    @Says(promise = 0, text = "- `NONE = -1`: There is no such object.")
    static void constantNone() {
        Due.is("NONE", -1, AlternatingAutomata.NONE);
        Due.is("no such character", AlternatingAutomata.NONE, new Bench().printed(0));
    }

    @Says(promise = 0, text = "- `BAD_ARGUMENT = -2`: An argument is outside its range.")
    static void constantBadArgument() {
        Due.is("BAD_ARGUMENT", -2, AlternatingAutomata.BAD_ARGUMENT);
        Due.is("slot", AlternatingAutomata.BAD_ARGUMENT, new Bench().property(MAX, 0));
        Due.is("slot", AlternatingAutomata.BAD_ARGUMENT, new Bench().property(MIN, 0));
    }

    @Says(promise = 0, text = "- `FULL = -3`: A limit would be exceeded.")
    static void constantFull() {
        Due.is("FULL", -3, AlternatingAutomata.FULL);
        Bench bench = new Bench();
        bench.append('t', 60);
        Due.is("text", AlternatingAutomata.FULL, bench.append('t', 1));
    }

    @Says(promise = 0, text = "- `MISMATCH = -4`: Two automata have different numbers of letters, or the word has a "
        + "letter "
        + "that the automaton does not have.")
    static void constantMismatch() {
        Due.is("MISMATCH", -4, AlternatingAutomata.MISMATCH);
        Bench bench = new Bench();
        bench.create(1, 1, 2);
        Due.is("different letters", AlternatingAutomata.MISMATCH, bench.findDifference(0, 1));
        bench.push(1);
        Due.is("a letter too high", AlternatingAutomata.MISMATCH, bench.accepts(0));
        Due.is("the highest letter", 0, bench.accepts(1));
    }

    @Says(promise = 0, text = "- `NOTHING = -5`: There is nothing to be restored.")
    static void constantNothing() {
        Due.is("NOTHING", -5, AlternatingAutomata.NOTHING);
        Due.is("restore", AlternatingAutomata.NOTHING, new Bench().restore());
    }
}
