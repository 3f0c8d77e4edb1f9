/** A test for each sentence at promises 25 to 34 that names a boundary. */
public final class EdgesOfPromises25To34Test {
    private static final int NONE = -1;
    private static final int BAD = -2;
    private static final int FULL = -3;
    private static final int MISMATCH = -4;
    private static final int NOTHING = -5;
    private static final int MIN = Integer.MIN_VALUE;
    private static final int MAX = Integer.MAX_VALUE;
    private static final int[] NO_SLOTS = {-1, 3, MIN, MAX};

    /** The first word of the automaton that farAway builds, by the oracle. */
    private static final String FAR_WORD = "01010010000101001000010101000001010101001";

    private EdgesOfPromises25To34Test() {
    }

    public static void main(String[] args) throws ReflectiveOperationException {
        Sentences.runAll(EdgesOfPromises25To34Test.class);
    }

    /** Slot 0 has two letters and accepts no word of less than 41 letters. */
    private static Bench farAway() {
        Bench bench = new Bench();
        bench.create(0, 6, 2);
        bench.initial(0, "1&2&3&4");
        String[] moves = {"0&(3|4)", "2", "4|0&4&5", "0&1", "5", "3&5", "1", "2&4&5", "3", "0|1|2", "2", "3|1&5"};
        for (int i = 0; i < moves.length; i++) {
            bench.move(0, i / 2, i % 2, moves[i]);
        }
        bench.finals(0, 0);
        return bench;
    }

    /** Puts an automaton into a slot that accepts the given words, each of one or two letters, and no other. */
    private static void accepting(Bench bench, int slot, int letters, String... words) {
        bench.create(slot, 5, letters);
        bench.initial(slot, "0");
        bench.finals(slot, 4);
        String[] second = {"1", "2", "3"};
        for (int first = 0; first < letters; first++) {
            StringBuilder formula = new StringBuilder("f");
            for (String word : words) {
                if (word.charAt(0) - '0' == first) {
                    formula.append('|').append(word.length() == 1 ? "4" : second[word.charAt(1) - '0']);
                }
            }
            bench.move(slot, 0, first, formula.toString());
            bench.move(slot, first + 1, first, "4");
        }
    }

    /** Slot 0 accepts words of any letters whose length leaves the rest when it is divided. */
    private static Bench lengths(int divisor, int rest, int letters) {
        Bench bench = new Bench();
        bench.create(0, divisor, letters);
        bench.initial(0, "0");
        bench.finals(0, rest);
        for (int state = 0; state < divisor; state++) {
            bench.moves(0, state, letters, String.valueOf((state + 1) % divisor));
        }
        return bench;
    }

    // Promise 25

    @Says(promise = 25, text = "Finds the accepted word whose cost, which is the sum of the weights of its letters, "
        + "is least;")
    static void cheapestLeastCost() {
        Bench bench = new Bench();
        accepting(bench, 0, 3, "2", "01", "10");
        bench.setWeight(0, 0, 4);
        bench.setWeight(0, 1, 4);
        bench.setWeight(0, 2, 9);
        Due.is("8 is less than 9", 2, bench.findCheapest(0));
        Due.is("8 is less than 9", "01", bench.foundWord());
        Due.is("cost", 8, bench.foundCost());
        bench.setWeight(0, 2, 7);
        Due.is("7 is less than 8", 1, bench.findCheapest(0));
        Due.is("7 is less than 8", "2", bench.foundWord());
        Due.is("cost", 7, bench.foundCost());
        bench.setFinal(0, 0, 1);
        Due.is("the empty word costs nothing", 0, bench.findCheapest(0));
        Due.is("cost", 0, bench.foundCost());
    }

    @Says(promise = 25, text = "Finds the accepted word whose cost, which is the sum of the weights of its letters, "
        + "is least;")
    static void cheapestWithoutFinals() {
        // No state is final, so all words are accepted through the empty set, which satisfies true.
        Bench bench = new Bench();
        bench.create(0, 2, 3);
        bench.initial(0, "0");
        bench.move(0, 0, 1, "1");
        bench.move(0, 1, 0, "t");
        Due.is("length", 2, bench.findCheapest(0));
        Due.is("word", "10", bench.foundWord());
        bench.create(1, 1, 3);
        Due.is("difference", 2, bench.findDifference(0, 1));
        Due.is("word", "10", bench.foundWord());
        Due.is("contained", 0, bench.isContained(0, 1));
        Due.is("count", 1, bench.countWords(0, 2));
    }

    @Says(promise = 25, text = "ties are broken by the order of words.")
    static void cheapestTies() {
        Bench bench = new Bench();
        accepting(bench, 0, 3, "2", "01", "10");
        bench.setWeight(0, 0, 4);
        bench.setWeight(0, 1, 4);
        bench.setWeight(0, 2, 8);
        bench.findCheapest(0);
        Due.is("the shorter one", "2", bench.foundWord());
        accepting(bench, 0, 3, "21", "20", "12", "02");
        bench.findCheapest(0);
        Due.is("the first letter counts first", "02", bench.foundWord());
        accepting(bench, 0, 3, "21", "20", "12");
        bench.findCheapest(0);
        Due.is("the first letter counts first", "12", bench.foundWord());
        accepting(bench, 0, 3, "22", "21", "20");
        bench.findCheapest(0);
        Due.is("then the second one", "20", bench.foundWord());
        accepting(bench, 0, 3, "2", "1");
        bench.findCheapest(0);
        Due.is("one letter", "1", bench.foundWord());
    }

    @Says(promise = 25, text = "NONE if the language is empty, and then the found word stays.")
    static void cheapestNoneAfterAnother() {
        // What the automaton before accepted by a letter that this one does not have must not matter.
        Bench bench = new Bench();
        bench.create(0, 2, 3);
        bench.initial(0, "1");
        bench.move(0, 1, 1, "0");
        bench.move(0, 1, 2, "0");
        bench.finals(0, 0);
        bench.create(1, 2, 1);
        bench.initial(1, "1");
        bench.finals(1, 0);
        bench.create(2, 1, 1);
        Due.is("by the second letter", 1, bench.findCheapest(0));
        Due.is("an automaton with one letter after it", NONE, bench.findCheapest(1));
        Due.is("no difference to the empty language", NONE, bench.findDifference(1, 2));
        Due.is("contained in the empty language", 1, bench.isContained(1, 2));
        Due.is("no words", 0, bench.countWords(1, 1));
        Due.is("the found word stays", "1", bench.foundWord());
    }

    @Says(promise = 25, text = "It becomes the found word.")
    static void cheapestBecomesFound() {
        Bench bench = farAway();
        Due.is("length", FAR_WORD.length(), bench.findCheapest(0));
        Due.is("longer than any word", FAR_WORD, bench.foundWord());
        Due.is("cost", FAR_WORD.length(), bench.foundCost());
        bench.setWeight(0, 0, 9);
        bench.setWeight(0, 1, 5);
        Due.is("again", FAR_WORD.length(), bench.findCheapest(0));
        Due.is("high cost", 27 * 9 + 14 * 5, bench.foundCost());
        bench.initial(0, "0");
        Due.is("the empty word", 0, bench.findCheapest(0));
        Due.is("it replaces the one before", "", bench.foundWord());
        Due.is("its cost too", 0, bench.foundCost());
        Due.is("the word stays", 0, bench.clearWord());
        // One letter only: the reverse automaton goes through 24 sets before an accepting one.
        Bench one = new Bench();
        one.create(0, 6, 1);
        one.initial(0, "1&5&(4&0)");
        String[] moves = {"2", "5", "4", "2|0", "1", "3"};
        for (int state = 0; state < 6; state++) {
            one.move(0, state, 0, moves[state]);
        }
        one.finals(0, 0);
        one.setWeight(0, 0, 9);
        Due.is("one letter", 24, one.findCheapest(0));
        Due.is("cost", 24 * 9, one.foundCost());
    }

    @Says(promise = 25, text = "Returns the length of the found word;")
    static void cheapestReturnsLength() {
        for (int rest = 0; rest < 6; rest++) {
            Bench bench = lengths(6, rest, 2);
            Due.is("length", rest, bench.findCheapest(0));
            Due.is("word", "0".repeat(rest), bench.foundWord());
        }
    }

    @Says(promise = 25, text = "BAD_ARGUMENT if there is no such slot;")
    static void cheapestRefused() {
        for (int slot : NO_SLOTS) {
            Refused.due(BAD, bench -> bench.findCheapest(slot));
        }
    }

    @Says(promise = 25, text = "NONE if the language is empty, and then the found word stays.")
    static void cheapestNone() {
        Due.is("at first", NONE, new Bench().findCheapest(0));
        Refused.due(NONE, bench -> bench.create(0, 3, 2), bench -> bench.findCheapest(0));
        Refused.due(NONE, bench -> bench.initial(0, "0&f"), bench -> bench.findCheapest(0));
        // All of the sets that are reached fail, though the initial formula can be satisfied.
        Refused.due(NONE, bench -> {
            bench.create(0, 6, 1);
            bench.initial(0, "5");
            bench.move(0, 5, 0, "4");
            bench.move(0, 4, 0, "5");
            bench.finals(0, 0, 1, 2, 3);
        }, bench -> bench.findCheapest(0));
        Bench bench = new Bench();
        bench.initial(0, "t");
        bench.create(1, 1, 1);
        bench.findCheapest(0);
        Due.is("after the empty word", NONE, bench.findCheapest(1));
        Due.is("the empty word stays", NONE, bench.foundLetter(0));
    }

    // Promise 26

    @Says(promise = 26, text = "Finds the first word, in the order of words, that is accepted by exactly one of two "
        + "automata.")
    static void differenceFirstWord() {
        Bench bench = new Bench();
        accepting(bench, 0, 3, "2", "00", "01", "11");
        accepting(bench, 1, 3, "2", "00", "10", "11");
        bench.findDifference(0, 1);
        Due.is("only the first accepts it", "01", bench.foundWord());
        bench.findDifference(1, 0);
        Due.is("only the second accepts it", "01", bench.foundWord());
        accepting(bench, 1, 3, "00", "01", "11", "1");
        bench.findDifference(0, 1);
        Due.is("shorter ones first", "1", bench.foundWord());
        bench.setFinal(1, 0, 1);
        Due.is("the empty word first of all", 0, bench.findDifference(0, 1));
        // Weights do not matter here.
        accepting(bench, 0, 3, "2", "00");
        accepting(bench, 1, 3);
        bench.setWeight(0, 2, 9);
        bench.findDifference(0, 1);
        Due.is("not the cheapest, but the shortest", "2", bench.foundWord());
    }

    @Says(promise = 26, text = "It becomes the found word, with the sum of the weights of its letters in the first "
        + "automaton as "
        + "its cost.")
    static void differenceCost() {
        Bench bench = farAway();
        bench.create(1, 1, 2);
        bench.setWeight(0, 0, 9);
        bench.setWeight(0, 1, 5);
        bench.setWeight(1, 0, 2);
        bench.setWeight(1, 1, 3);
        Due.is("length", FAR_WORD.length(), bench.findDifference(0, 1));
        Due.is("longer than any word", FAR_WORD, bench.foundWord());
        Due.is("weights of the first", 27 * 9 + 14 * 5, bench.foundCost());
        bench.findDifference(1, 0);
        Due.is("weights of the other first", 27 * 2 + 14 * 3, bench.foundCost());
        Due.is("the same word", FAR_WORD, bench.foundWord());
        bench.finals(0, 1, 2, 3, 4, 5);
        bench.findDifference(0, 1);
        Due.is("the empty word", "", bench.foundWord());
        Due.is("costs nothing", 0, bench.foundCost());
    }

    @Says(promise = 26, text = "Returns the length of the found word;")
    static void differenceReturnsLength() {
        for (int rest = 0; rest < 6; rest++) {
            Bench bench = lengths(6, rest, 3);
            bench.create(1, 1, 3);
            Due.is("length", rest, bench.findDifference(0, 1));
            Due.is("word", "0".repeat(rest), bench.foundWord());
        }
        Bench bench = lengths(3, 2, 1);
        bench.dualize(0, 1);
        Due.is("an automaton and its dual differ at once", 0, bench.findDifference(0, 1));
    }

    @Says(promise = 26, text = "BAD_ARGUMENT if a slot does not exist;")
    static void differenceRefused() {
        for (int slot : NO_SLOTS) {
            Refused.due(BAD, bench -> bench.findDifference(slot, 0));
            Refused.due(BAD, bench -> bench.findDifference(0, slot));
            Refused.due(BAD, bench -> bench.findDifference(slot, slot));
        }
    }

    @Says(promise = 26, text = "MISMATCH if the automata have different numbers of letters;")
    static void differenceMismatch() {
        // Slots 0 and 2 have two letters, slot 1 has three.
        Refused.due(MISMATCH, bench -> bench.findDifference(0, 1));
        Refused.due(MISMATCH, bench -> bench.findDifference(1, 2));
        Refused.due(MISMATCH, bench -> bench.create(1, 6, 1), bench -> bench.findDifference(0, 1));
        Refused.due(MISMATCH, bench -> bench.create(0, 6, 1), bench -> bench.findDifference(0, 1));
        Due.isNot("the same number", MISMATCH, Refused.furnished().findDifference(0, 2));
        Due.isNot("different numbers of states", MISMATCH, Refused.furnished().findDifference(2, 0));
    }

    @Says(promise = 26, text = "NONE if the languages are the same, and then the found word stays.")
    static void differenceNone() {
        for (int slot = 0; slot < 3; slot++) {
            int same = slot;
            Refused.due(NONE, bench -> bench.findDifference(same, same));
        }
        Refused.due(NONE, bench -> {
            bench.create(0, 1, 3);
            bench.create(1, 6, 3);
        }, bench -> bench.findDifference(0, 1));
        // The same language by other formulas and another number of states.
        Refused.due(NONE, bench -> {
            bench.create(0, 1, 1);
            bench.initial(0, "0");
            bench.move(0, 0, 0, "0");
            bench.finals(0, 0);
            bench.create(1, 6, 1);
            bench.initial(1, "t|3");
        }, bench -> bench.findDifference(0, 1));
    }

    // Promise 27

    @Says(promise = 27, text = "- `index`: the index, from 0")
    static void foundLetterIndex() {
        Bench bench = farAway();
        bench.findCheapest(0);
        for (int i = 0; i < FAR_WORD.length(); i++) {
            Due.is("index " + i, FAR_WORD.charAt(i) - '0', bench.foundLetter(i));
        }
        accepting(bench, 1, 3, "20");
        bench.findCheapest(1);
        Due.is("first", 2, bench.foundLetter(0));
        Due.is("second", 0, bench.foundLetter(1));
    }

    @Says(promise = 27, text = "NONE if there is no such index.")
    static void foundLetterNone() {
        Due.is("at first", NONE, new Bench().foundLetter(0));
        Bench bench = farAway();
        bench.findCheapest(0);
        Due.is("last", 1, bench.foundLetter(40));
        for (int index : new int[] {41, 42, 127, 128, 129, -1, MIN, MAX}) {
            Due.is("index " + index, NONE, bench.foundLetter(index));
        }
        accepting(bench, 1, 2, "1");
        bench.findCheapest(1);
        Due.is("nothing of a longer word before", NONE, bench.foundLetter(1));
    }

    // Promise 28

    @Says(promise = 28, text = "Returns the cost of the found word.")
    static void foundCostStays() {
        Bench bench = new Bench();
        Due.is("at first", 0, bench.foundCost());
        accepting(bench, 0, 3, "20");
        bench.setWeight(0, 2, 9);
        bench.setWeight(0, 0, 8);
        bench.findCheapest(0);
        Due.is("found", 17, bench.foundCost());
        bench.setWeight(0, 2, 1);
        bench.create(0, 1, 1);
        Due.is("later weights do not matter", 17, bench.foundCost());
        bench.findCheapest(0);
        Due.is("nothing was found", 17, bench.foundCost());
        bench.initial(0, "t");
        bench.findCheapest(0);
        Due.is("the empty word", 0, bench.foundCost());
    }

    // Promise 29

    @Says(promise = 29, text = "Returns 1 if the language of the first one is contained in that of the second one, "
        + "otherwise 0;")
    static void containedOrNot() {
        Bench bench = new Bench();
        Due.is("the empty language in itself", 1, bench.isContained(0, 1));
        Due.is("the same slot", 1, bench.isContained(0, 0));
        bench.initial(1, "t");
        Due.is("the empty language in all words", 1, bench.isContained(0, 1));
        Due.is("all words in the empty language", 0, bench.isContained(1, 0));
        Due.is("all words in all words", 1, bench.isContained(1, 1));
        accepting(bench, 0, 2, "1", "01");
        accepting(bench, 1, 2, "1", "01", "00");
        accepting(bench, 2, 2, "1", "00");
        int[][] due = {{1, 1, 0}, {0, 1, 0}, {0, 1, 1}};
        for (int one = 0; one < 3; one++) {
            for (int other = 0; other < 3; other++) {
                Due.is(one + " in " + other, due[one][other], bench.isContained(one, other));
            }
        }
        Refused.changesNothing(b -> { }, b -> b.isContained(0, 2));
        Refused.changesNothing(b -> { }, b -> b.isContained(2, 0));
        Bench far = farAway();
        far.create(1, 1, 2);
        Due.is("one word of 41 letters", 0, far.isContained(0, 1));
        Due.is("the other way", 1, far.isContained(1, 0));
    }

    @Says(promise = 29, text = "BAD_ARGUMENT if a slot does not exist;")
    static void containedRefused() {
        for (int slot : NO_SLOTS) {
            Refused.due(BAD, bench -> bench.isContained(slot, 0));
            Refused.due(BAD, bench -> bench.isContained(0, slot));
            Refused.due(BAD, bench -> bench.isContained(slot, slot));
        }
    }

    @Says(promise = 29, text = "MISMATCH if the automata have different numbers of letters.")
    static void containedMismatch() {
        Refused.due(MISMATCH, bench -> bench.isContained(0, 1));
        Refused.due(MISMATCH, bench -> bench.isContained(1, 2));
        Refused.due(MISMATCH, bench -> bench.create(1, 6, 1), bench -> bench.isContained(0, 1));
        Due.isNot("the same number", MISMATCH, Refused.furnished().isContained(0, 2));
        Bench bench = new Bench();
        bench.create(1, 1, 2);
        Due.is("also if the language is empty", MISMATCH, bench.isContained(0, 1));
    }

    // Promise 30

    @Says(promise = 30, text = "- `length`: the length, 0 to 20")
    static void countLengths() {
        for (int letters = 1; letters <= 3; letters++) {
            Bench bench = new Bench();
            bench.create(0, 1, letters);
            bench.initial(0, "t");
            long due = 1;
            for (int length = 0; length <= 20; length++) {
                Due.is(letters + " letters, length " + length, due, bench.countWords(0, length));
                due *= letters;
            }
            Due.is("21", -1, bench.countWords(0, 21));
            Due.is("-1", -1, bench.countWords(0, -1));
        }
        Bench three = lengths(6, 2, 3);
        Due.is("more than an int holds", 3486784401L, three.countWords(0, 20));
        Due.is("none of this length", 0, three.countWords(0, 19));
        Due.is("no empty word", 0, three.countWords(0, 0));
        Due.is("an empty language", 0, new Bench().countWords(0, 20));
    }

    @Says(promise = 30, text = "-1 if there is no such slot or the length is out of range.")
    static void countRefused() {
        for (int slot : NO_SLOTS) {
            Refused.due(-1, bench -> bench.countWords(slot, 0));
        }
        for (int length : new int[] {-1, 21, 22, MIN, MAX}) {
            Refused.due(-1, bench -> bench.countWords(0, length));
        }
    }

    // Promise 31

    @Says(promise = 31, text = "Puts the dual of an automaton into a slot: true and false are exchanged in all "
        + "formulas, "
        + "conjunctions and disjunctions are, and so are final and other states.")
    static void dualFormulas() {
        Bench bench = new Bench();
        bench.create(0, 6, 3);
        bench.initial(0, "t|f&0");
        bench.move(0, 0, 0, "0&(1|2)");
        bench.move(0, 5, 2, "0&1|2");
        bench.finals(0, 0, 5);
        bench.dualize(0, 1);
        Due.is("true and false", "f&(t|0)", bench.shown(1, -1, 0));
        Due.is("first transition formula", "0|1&2", bench.shown(1, 0, 0));
        Due.is("last transition formula", "(0|1)&2", bench.shown(1, 5, 2));
        Due.is("a formula that was never set", "t", bench.shown(1, 3, 1));
        Due.is("it is satisfied by the empty set", 1, bench.isSatisfied(1, 3, 1, 0));
        bench.initial(0, "t");
        bench.dualize(0, 1);
        Due.is("true becomes false", "f", bench.shown(1, -1, 0));
        Due.is("it is not satisfied by the empty set", 0, bench.isSatisfied(1, -1, 0, 0));
        Due.is("nor by all states", 0, bench.isSatisfied(1, -1, 0, 63));
        Due.is("final states", 30, bench.property(1, 2));
        Due.is("the automaton itself stays", "t", bench.shown(0, -1, 0));
        Due.is("its final states stay", 33, bench.property(0, 2));
        Due.is("other slots stay", 1, bench.property(2, 0));
        // The target had more states and letters than the dual.
        bench.dualize(2, 1);
        Due.is("states", 1, bench.property(1, 0));
        Due.is("letters", 1, bench.property(1, 1));
        Due.is("no second letter", NONE, bench.property(1, 4));
        Due.is("no second state", BAD, bench.print(1, 1, 0));
    }

    @Says(promise = 31, text = "The dual accepts the words that the automaton does not accept.")
    static void dualAcceptsOthers() {
        Bench bench = farAway();
        bench.dualize(0, 1);
        for (int length = 0; length <= 20; length++) {
            Due.is("length " + length, 1L << length, bench.countWords(0, length) + bench.countWords(1, length));
        }
        bench.word("010");
        Due.is("not accepted", 0, bench.accepts(0));
        Due.is("accepted", 1, bench.accepts(1));
        bench.combine(2, 2, 2, 0);
        Due.is("the empty language", NONE, bench.findCheapest(2));
        bench.dualize(2, 2);
        Due.is("all words", 1, bench.countWords(2, 20));
    }

    @Says(promise = 31, text = "Weights stay the same.")
    static void dualWeights() {
        Bench bench = new Bench();
        bench.create(0, 1, 3);
        bench.setWeight(0, 0, 9);
        bench.setWeight(0, 2, 5);
        bench.setWeight(1, 0, 7);
        bench.dualize(0, 1);
        int[] due = {9, 1, 5};
        for (int letter = 0; letter < 3; letter++) {
            Due.is("weight of the dual", due[letter], bench.property(1, 3 + letter));
            Due.is("weight of the automaton", due[letter], bench.property(0, 3 + letter));
        }
        bench.setWeight(1, 0, 2);
        Due.is("the two are apart", 9, bench.property(0, 3));
    }

    @Says(promise = 31, text = "- `target`: the slot that gets the dual, possibly the same")
    static void dualInPlace() {
        for (int slot = 0; slot < 3; slot++) {
            Bench bench = new Bench();
            bench.create(slot, 6, 3);
            bench.initial(slot, "0&1|t");
            bench.move(slot, 5, 2, "5|f");
            bench.finals(slot, 1);
            Due.is("final states", 61, bench.dualize(slot, slot));
            Due.is("initial formula", "(0|1)&f", bench.shown(slot, -1, 0));
            Due.is("satisfied by all", 0, bench.isSatisfied(slot, -1, 0, 63));
            Due.is("transition formula", "5&t", bench.shown(slot, 5, 2));
            Due.is("satisfied by {5}", 1, bench.isSatisfied(slot, 5, 2, 32));
            Due.is("and back", 2, bench.dualize(slot, slot));
            Due.is("initial formula", "0&1|t", bench.shown(slot, -1, 0));
            Due.is("satisfied by none", 1, bench.isSatisfied(slot, -1, 0, 0));
        }
        for (int states = 1; states <= 6; states++) {
            for (int letters = 1; letters <= 3; letters++) {
                Bench bench = new Bench();
                bench.create(0, states, letters);
                bench.initial(0, "0&f");
                bench.moves(0, states - 1, letters, "0|t");
                bench.dualize(0, 0);
                Due.is("initial formula", "0|t", bench.shown(0, -1, 0));
                Due.is("transition formula", "0&f", bench.shown(0, states - 1, letters - 1));
            }
        }
    }

    @Says(promise = 31, text = "Returns the set of final states of the dual;")
    static void dualReturnsFinals() {
        for (int states = 1; states <= 6; states++) {
            Bench bench = new Bench();
            bench.create(0, states, 1);
            Due.is("all states", (1 << states) - 1, bench.dualize(0, 1));
            Due.is("no states", 0, bench.dualize(1, 2));
        }
    }

    @Says(promise = 31, text = "BAD_ARGUMENT if a slot does not exist.")
    static void dualRefused() {
        for (int slot : NO_SLOTS) {
            Refused.due(BAD, bench -> bench.dualize(slot, 0));
            Refused.due(BAD, bench -> bench.dualize(0, slot));
            Refused.due(BAD, bench -> bench.dualize(slot, slot));
        }
    }

    // Promise 32

    @Says(promise = 32, text = "Its states are those of the first automaton, followed by those of the second one "
        + "with higher "
        + "numbers.")
    static void combineStates() {
        for (int first = 1; first <= 5; first++) {
            Bench bench = new Bench();
            int second = 6 - first;
            bench.create(0, first, 3);
            bench.create(1, second, 3);
            bench.move(0, first - 1, 2, (first - 1) + "|t");
            bench.move(1, second - 1, 2, (second - 1) + "&0&f");
            bench.move(1, 0, 0, "0");
            bench.finals(0, first - 1);
            bench.finals(1, second - 1);
            bench.create(2, 6, 3);
            bench.moves(2, 0, 3, "t");
            Due.is("states", 6, bench.combine(0, 1, 2, 1));
            Due.is("last of the first", (first - 1) + "|t", bench.shown(2, first - 1, 2));
            Due.is("last of the second", "5&" + first + "&f", bench.shown(2, 5, 2));
            Due.is("first of the second", String.valueOf(first), bench.shown(2, first, 0));
            Due.is("satisfied", 1, bench.isSatisfied(2, first, 0, 1 << first));
            Due.is("not satisfied", 0, bench.isSatisfied(2, first, 0, 63 - (1 << first)));
            Due.is("a formula that was never set", "f", bench.shown(2, 5, 1));
            Due.is("final states", 1 << first - 1 | 32, bench.property(2, 2));
        }
    }

    @Says(promise = 32, text = "Its initial formula is the disjunction or conjunction of the initial formula of the "
        + "first one "
        + "and that of the second one.")
    static void combineInitial() {
        Bench bench = new Bench();
        bench.create(0, 2, 1);
        bench.create(1, 3, 1);
        bench.initial(0, "0|1");
        bench.initial(1, "0|2&1");
        bench.combine(0, 1, 2, 0);
        Due.is("disjunction", "0|1|(2|4&3)", bench.shown(2, -1, 0));
        Due.is("satisfied by {2}", 1, bench.isSatisfied(2, -1, 0, 4));
        Due.is("satisfied by {1}", 1, bench.isSatisfied(2, -1, 0, 2));
        bench.combine(0, 1, 2, 1);
        Due.is("conjunction", "(0|1)&(2|4&3)", bench.shown(2, -1, 0));
        Due.is("not satisfied by {2}", 0, bench.isSatisfied(2, -1, 0, 4));
        Due.is("satisfied by {1, 3, 4}", 1, bench.isSatisfied(2, -1, 0, 26));
        bench.initial(0, "t");
        bench.initial(1, "f");
        bench.combine(0, 1, 2, 0);
        Due.is("true or false", "t|f", bench.shown(2, -1, 0));
        bench.initial(1, "t&0|f");
        bench.move(1, 2, 0, "t");
        bench.combine(0, 1, 2, 1);
        Due.is("true and false have no higher numbers", "t&(t&2|f)", bench.shown(2, -1, 0));
        Due.is("true in a transition formula", "t", bench.shown(2, 4, 0));
        Due.is("it is satisfied by the empty set", 1, bench.isSatisfied(2, 4, 0, 0));
    }

    @Says(promise = 32, text = "Its weights are those of the first one.")
    static void combineWeights() {
        Bench bench = new Bench();
        bench.create(0, 1, 3);
        bench.create(1, 1, 3);
        for (int letter = 0; letter < 3; letter++) {
            bench.setWeight(0, letter, 7 + letter);
            bench.setWeight(1, letter, 2 + letter);
        }
        bench.combine(0, 1, 2, 0);
        for (int letter = 0; letter < 3; letter++) {
            Due.is("of the first", 7 + letter, bench.property(2, 3 + letter));
        }
        bench.combine(1, 0, 0, 0);
        for (int letter = 0; letter < 3; letter++) {
            Due.is("of the first, into the second", 2 + letter, bench.property(0, 3 + letter));
        }
    }

    @Says(promise = 32, text = "- `target`: the slot that gets the result, possibly one of both")
    static void combineInPlace() {
        String due = "(0|1)&(2|3&4)";
        for (int target = 0; target < 3; target++) {
            Bench bench = new Bench();
            bench.create(0, 2, 1);
            bench.create(1, 3, 1);
            bench.create(2, 6, 1);
            bench.initial(0, "0|1");
            bench.initial(1, "0|1&2");
            bench.move(0, 1, 0, "1&0");
            bench.move(1, 2, 0, "2&0");
            bench.finals(0, 1);
            bench.finals(1, 0);
            Due.is("states", 5, bench.combine(0, 1, target, 1));
            Due.is("initial formula", due, bench.shown(target, -1, 0));
            Due.is("of the first", "1&0", bench.shown(target, 1, 0));
            Due.is("of the second", "4&2", bench.shown(target, 4, 0));
            Due.is("final states", 6, bench.property(target, 2));
            Due.is("the first stays", target == 0 ? 5 : 2, bench.property(0, 0));
            Due.is("the second stays", target == 1 ? 5 : 3, bench.property(1, 0));
        }
        Bench bench = new Bench();
        bench.create(0, 3, 1);
        bench.initial(0, "2");
        bench.move(0, 2, 0, "0");
        bench.finals(0, 2);
        Due.is("with itself into itself", 6, bench.combine(0, 0, 0, 0));
        Due.is("initial formula", "2|5", bench.shown(0, -1, 0));
        Due.is("transition formula", "3", bench.shown(0, 5, 0));
        Due.is("final states", 36, bench.property(0, 2));
    }

    @Says(promise = 32, text = "- `operation`: 0 for the union, 1 for the intersection")
    static void combineOperation() {
        Bench bench = lengths(2, 0, 1);
        bench.create(1, 3, 1);
        bench.initial(1, "0");
        bench.finals(1, 0);
        for (int state = 0; state < 3; state++) {
            bench.move(1, state, 0, String.valueOf((state + 1) % 3));
        }
        bench.combine(0, 1, 2, 0);
        for (int length = 0; length <= 20; length++) {
            boolean isIn = length % 2 == 0 || length % 3 == 0;
            Due.is("union, length " + length, isIn ? 1 : 0, bench.countWords(2, length));
        }
        bench.combine(0, 1, 2, 1);
        for (int length = 0; length <= 20; length++) {
            Due.is("intersection, length " + length, length % 6 == 0 ? 1 : 0, bench.countWords(2, length));
        }
        for (int operation : new int[] {-1, 2, MIN, MAX}) {
            Refused.due(BAD, b -> b.combine(0, 2, 1, operation));
        }
    }

    @Says(promise = 32, text = "Returns the number of states;")
    static void combineReturnsStates() {
        for (int first = 1; first <= 5; first++) {
            for (int second = 1; second <= 6 - first; second++) {
                Bench bench = new Bench();
                bench.create(0, first, 1);
                bench.create(1, second, 1);
                Due.is("states", first + second, bench.combine(0, 1, 2, 0));
                Due.is("states", first + second, bench.property(2, 0));
            }
        }
    }

    @Says(promise = 32, text = "BAD_ARGUMENT if a slot does not exist or operation is not 0 or 1;")
    static void combineRefused() {
        for (int slot : NO_SLOTS) {
            Refused.due(BAD, bench -> bench.combine(slot, 0, 1, 0));
            Refused.due(BAD, bench -> bench.combine(0, slot, 1, 0));
            Refused.due(BAD, bench -> bench.combine(0, 2, slot, 0));
        }
        Refused.due(BAD, bench -> bench.combine(0, 2, 0, -1));
        Refused.due(BAD, bench -> bench.combine(0, 2, 0, 2));
    }

    @Says(promise = 32, text = "MISMATCH if the automata have different numbers of letters;")
    static void combineMismatch() {
        // Slots 0 and 2 have two letters; the letters of the target do not matter.
        Refused.due(MISMATCH, bench -> bench.create(1, 1, 3), bench -> bench.combine(0, 1, 2, 0));
        Refused.due(MISMATCH, bench -> bench.create(1, 1, 1), bench -> bench.combine(1, 0, 0, 1));
        Due.is("the target has three", 5, Refused.furnished().combine(0, 2, 1, 0));
    }

    @Says(promise = 32, text = "FULL if there would be more than 6 states or more than 40 nodes in the initial "
        + "formula.")
    static void combineFull() {
        for (int first = 1; first <= 6; first++) {
            int one = first;
            Refused.due(FULL, bench -> {
                bench.create(0, one, 1);
                bench.create(1, 7 - one, 1);
            }, bench -> bench.combine(0, 1, 2, 0));
        }
        Refused.due(FULL, bench -> bench.create(1, 6, 1), bench -> bench.combine(1, 1, 1, 1));
        for (int leaves = 1; leaves <= 20; leaves++) {
            int one = leaves;
            Refused.due(FULL, bench -> nodesInSlots(bench, one, 21 - one), bench -> bench.combine(0, 1, 2, 1));
            if (leaves < 20) {
                Bench bench = new Bench();
                nodesInSlots(bench, leaves, 20 - leaves);
                Due.is("39 nodes", 2, bench.combine(0, 1, 2, 1));
            }
        }
        Bench largest = new Bench();
        nodesInSlots(largest, 20, 20);
        Due.is("39 and 39 nodes", FULL, largest.combine(0, 1, 2, 0));
    }

    /** Initial formulas with so many leaves, hence with one node less than twice as many. */
    private static void nodesInSlots(Bench bench, int leavesOfOne, int leavesOfOther) {
        bench.create(0, 1, 1);
        bench.create(1, 1, 1);
        bench.initial(0, "0" + "|0".repeat(leavesOfOne - 1));
        bench.initial(1, "0" + "|0".repeat(leavesOfOther - 1));
    }

    // Promise 33

    @Says(promise = 33, text = "Saves the automata of all slots, replacing an earlier snapshot.")
    static void saveReplaces() {
        Bench bench = new Bench();
        bench.create(0, 6, 3);
        bench.initial(0, "5");
        bench.save();
        bench.create(0, 2, 1);
        bench.create(1, 3, 2);
        bench.create(2, 4, 3);
        bench.move(2, 3, 2, "3");
        bench.setWeight(2, 2, 9);
        bench.finals(1, 2);
        bench.save();
        for (int slot = 0; slot < 3; slot++) {
            bench.create(slot, 1, 1);
        }
        bench.restore();
        Due.is("slot 0, not the earlier one", 2, bench.property(0, 0));
        Due.is("slot 0, initial formula", "f", bench.shown(0, -1, 0));
        Due.is("slot 1", 3, bench.property(1, 0));
        Due.is("slot 1, final states", 4, bench.property(1, 2));
        Due.is("slot 2", 4, bench.property(2, 0));
        Due.is("slot 2, transition formula", "3", bench.shown(2, 3, 2));
        Due.is("slot 2, weight", 9, bench.property(2, 5));
    }

    @Says(promise = 33, text = "Returns the number of states of all automata.")
    static void saveReturnsStates() {
        Bench bench = new Bench();
        Due.is("at first", 3, bench.save());
        bench.create(0, 6, 1);
        bench.create(1, 6, 1);
        bench.create(2, 6, 1);
        Due.is("the most", 18, bench.save());
        bench.create(1, 2, 1);
        Due.is("in between", 14, bench.save());
    }

    // Promise 34

    @Says(promise = 34, text = "Restores the snapshot, which is kept.")
    static void restoreKeeps() {
        Bench bench = new Bench();
        bench.create(1, 5, 2);
        bench.initial(1, "4&3");
        bench.move(1, 4, 1, "0|t");
        bench.finals(1, 3);
        bench.setWeight(1, 1, 6);
        bench.save();
        for (int times = 0; times < 3; times++) {
            bench.dualize(1, 1);
            bench.setWeight(1, 1, 2);
            bench.finals(1, 0);
            Due.is("restore", 7, bench.restore());
            Due.is("states", 5, bench.property(1, 0));
            Due.is("letters", 2, bench.property(1, 1));
            Due.is("final states", 8, bench.property(1, 2));
            Due.is("weight", 6, bench.property(1, 4));
            Due.is("initial formula", "4&3", bench.shown(1, -1, 0));
            Due.is("transition formula", "0|t", bench.shown(1, 4, 1));
            Due.is("satisfied", 1, bench.isSatisfied(1, 4, 1, 0));
        }
        Due.is("restored twice in a row", 7, bench.restore());
    }

    @Says(promise = 34, text = "The text, the word, the found word and the printed text stay.")
    static void restoreLeavesTheRest() {
        Bench bench = new Bench();
        bench.save();
        accepting(bench, 0, 3, "20");
        bench.setWeight(0, 2, 8);
        bench.findCheapest(0);
        bench.print(0, 0, 2);
        bench.word("0120");
        bench.type("0&(");
        bench.restore();
        Due.is("found word", "20", bench.foundWord());
        Due.is("cost", 9, bench.foundCost());
        Due.is("printed text", "f|1", bench.shownBefore());
        Due.is("text", 4, bench.append('t', 1));
        Due.is("text", 5, bench.append(')', 1));
        Due.is("text", 3, bench.setInitial(0));
        Due.is("word", MISMATCH, bench.accepts(0));
        Due.is("word", 4, bench.clearWord());
        Bench empty = new Bench();
        empty.type("t");
        empty.push(1);
        empty.save();
        empty.setInitial(0);
        empty.clearWord();
        empty.restore();
        Due.is("no text comes back", -100, empty.setInitial(0));
        Due.is("no word comes back", 0, empty.clearWord());
    }

    @Says(promise = 34, text = "Returns the number of states of all automata;")
    static void restoreReturnsStates() {
        Bench bench = new Bench();
        bench.save();
        bench.create(0, 6, 3);
        Due.is("of the restored ones", 3, bench.restore());
        bench.create(0, 6, 1);
        bench.create(1, 6, 1);
        bench.create(2, 6, 1);
        bench.save();
        bench.create(2, 1, 1);
        Due.is("the most", 18, bench.restore());
    }

    @Says(promise = 34, text = "NOTHING if there is no snapshot.")
    static void restoreNothing() {
        Bench bench = new Bench();
        bench.create(1, 6, 3);
        Due.is("no snapshot", NOTHING, bench.restore());
        Due.is("still none", NOTHING, bench.restore());
        Due.is("nothing changed", 6, bench.property(1, 0));
        Due.is("save", 8, bench.save());
        Due.is("now there is one", 8, bench.restore());
    }
}
