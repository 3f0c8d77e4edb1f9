/** For each promise of the document: ordinary inputs, the edges it names, and wrong inputs. */
public final class PromisesTest {
    private static final int NONE = -1;
    private static final int BAD = -2;
    private static final int FULL = -3;
    private static final int MISMATCH = -4;
    private static final int NOTHING = -5;
    private static final int MIN = Integer.MIN_VALUE;
    private static final int MAX = Integer.MAX_VALUE;

    private PromisesTest() {
    }

    public static void main(String[] args) {
        promise1NewObject();
        promise2Create();
        promise3SetFinal();
        promise4SetWeight();
        promise5Append();
        promise6SetInitial();
        promise6SyntaxErrors();
        promise7SetTransition();
        promise8Property();
        promise9And10Print();
        promise11IsSatisfied();
        promise12Model();
        promise13And14Word();
        promise15And16Acceptance();
        promise17Rank();
        promise18Strategy();
        promise19ReverseStep();
        promise20ReverseStates();
        promise21ReverseClasses();
        promise22ExistentialStates();
        promise23ExistentialSets();
        promise24RelevantStates();
        promise25FindCheapest();
        promise25Ties();
        promise26FindDifference();
        promise27And28Found();
        promise29IsContained();
        promise30CountWords();
        promise31Dualize();
        promise32Combine();
        promise32CombineLimits();
        promise33And34Snapshot();
        sameAnswersAgainAndAgain();
        Due.end();
    }

    private static void promise1NewObject() {
        Bench x = new Bench();
        for (int slot = 0; slot < 3; slot++) {
            Due.is("1 states", 1, x.property(slot, 0));
            Due.is("1 letters", 1, x.property(slot, 1));
            Due.is("1 finals", 0, x.property(slot, 2));
            Due.is("1 weight", 1, x.property(slot, 3));
            Due.is("1 initial", "f", x.shown(slot, -1, 0));
            Due.is("1 transition", "f", x.shown(slot, 0, 0));
        }
        Bench y = new Bench();
        Due.is("1 text is empty", -100, y.setInitial(0));
        Due.is("1 printed text is empty", NONE, y.printed(0));
        Due.is("1 word is empty", 0, y.clearWord());
        Due.is("1 found word is empty", NONE, y.foundLetter(0));
        Due.is("1 found word has no cost", 0, y.foundCost());
        Due.is("1 no snapshot", NOTHING, y.restore());
    }

    private static void promise2Create() {
        Bench x = new Bench();
        Due.is("2 first", 1, x.create(0, 6, 3));
        x.initial(0, "5|0");
        x.move(0, 5, 2, "t");
        x.setFinal(0, 5, 1);
        x.setWeight(0, 2, 9);
        Due.is("2 second", 6, x.create(0, 6, 3));
        Due.is("2 finals", 0, x.property(0, 2));
        Due.is("2 initial", "f", x.shown(0, -1, 0));
        Due.is("2 transition", "f", x.shown(0, 5, 2));
        Due.is("2 weight", 1, x.property(0, 5));
        Due.is("2 third", 6, x.create(0, 2, 1));
        Due.is("2 states", 2, x.property(0, 0));
        Due.is("2 letters", 1, x.property(0, 1));
        Due.is("2 slot 1 stays", 1, x.property(1, 0));
        int[][] wrong = {{-1, 1, 1}, {3, 1, 1}, {0, 0, 1}, {0, 7, 1}, {0, 1, 0}, {0, 1, 4},
            {MIN, 1, 1}, {MAX, 1, 1}, {0, MIN, 1}, {0, MAX, 1}, {0, 1, MIN}, {0, 1, MAX}};
        for (int[] w : wrong) {
            Due.is("2 wrong", BAD, x.create(w[0], w[1], w[2]));
        }
        Due.is("2 nothing changed", 2, x.property(0, 0));
    }

    private static void promise3SetFinal() {
        Bench x = new Bench();
        x.create(1, 6, 1);
        Due.is("3 state 5", 32, x.setFinal(1, 5, 1));
        Due.is("3 state 0", 33, x.setFinal(1, 0, 1));
        Due.is("3 again", 33, x.setFinal(1, 0, 1));
        Due.is("3 not final", 1, x.setFinal(1, 5, 0));
        Due.is("3 not final again", 1, x.setFinal(1, 5, 0));
        int[][] wrong = {{-1, 0, 1}, {3, 0, 1}, {1, -1, 1}, {1, 6, 1}, {0, 1, 1}, {1, 0, 2}, {1, 0, -1},
            {MAX, 0, 1}, {1, MIN, 1}, {1, MAX, 1}, {1, 32, 0}, {1, 0, MIN}};
        for (int[] w : wrong) {
            Due.is("3 wrong", BAD, x.setFinal(w[0], w[1], w[2]));
        }
        Due.is("3 nothing changed", 1, x.property(1, 2));
    }

    private static void promise4SetWeight() {
        Bench x = new Bench();
        x.create(2, 1, 3);
        Due.is("4 first", 1, x.setWeight(2, 2, 9));
        Due.is("4 second", 9, x.setWeight(2, 2, 1));
        Due.is("4 third", 1, x.setWeight(2, 2, 4));
        Due.is("4 other letter", 1, x.property(2, 3));
        int[][] wrong = {{-1, 0, 1}, {3, 0, 1}, {2, -1, 1}, {2, 3, 1}, {0, 1, 1}, {2, 0, 0}, {2, 0, 10},
            {MIN, 0, 1}, {2, MIN, 1}, {2, MAX, 1}, {2, 0, MIN}, {2, 0, MAX}};
        for (int[] w : wrong) {
            Due.is("4 wrong", BAD, x.setWeight(w[0], w[1], w[2]));
        }
        Due.is("4 nothing changed", 4, x.property(2, 5));
    }

    private static void promise5Append() {
        Bench x = new Bench();
        Due.is("5 first", 1, x.append(0, 1));
        Due.is("5 more", 3, x.append(127, 2));
        int[][] wrong = {{-1, 1}, {128, 1}, {48, 0}, {48, -1}, {48, 61}, {MIN, 1}, {MAX, 1}, {48, MIN}, {48, MAX}};
        for (int[] w : wrong) {
            Due.is("5 wrong", BAD, x.append(w[0], w[1]));
        }
        Due.is("5 one too many", FULL, x.append(48, 58));
        Due.is("5 just full", 60, x.append(48, 57));
        Due.is("5 full", FULL, x.append(48, 1));
        Due.is("5 wrong before full", BAD, x.append(128, 1));
        Due.is("5 empties", -100, x.setInitial(0));
        Due.is("5 all at once", 60, x.append('(', 60));
        Due.is("5 ends too early", -160, x.setInitial(0));
    }

    private static void promise6SetInitial() {
        Bench x = new Bench();
        x.create(0, 6, 1);
        Due.is("6 t", 1, x.initial(0, "t"));
        Due.is("6 f", 1, x.initial(0, "f"));
        Due.is("6 state", 1, x.initial(0, "5"));
        Due.is("6 parentheses are no nodes", 1, x.initial(0, "(((5)))"));
        Due.is("6 deep", 1, x.initial(0, "(".repeat(29) + "3" + ")".repeat(29)));
        Due.is("6 deep formula", "3", x.shown(0, -1, 0));
        Due.is("6 mixed", 7, x.initial(0, "0&1|2&3"));
        Due.is("6 no such slot", BAD, x.initial(3, "0"));
        Due.is("6 text is empty", 1, x.append('1', 1));
        Due.is("6 no such slot", BAD, x.setInitial(-1));
        Due.is("6 no such slot", BAD, x.setInitial(MAX));
        Due.is("6 formula stays", "0&1|2&3", x.shown(0, -1, 0));
        Due.is("6 39 nodes", 39, x.initial(0, "0|".repeat(19) + "1"));
        Due.is("6 41 nodes", FULL, x.initial(0, "2&".repeat(20) + "1"));
        Due.is("6 text is empty after full", -100, x.setInitial(0));
        Due.is("6 59 nodes", FULL, x.initial(0, "2&".repeat(29) + "1"));
        Due.is("6 formula stays after full", "0|".repeat(19) + "1", x.shown(0, -1, 0));
        Due.is("6 error before full", -160, x.initial(0, "2&".repeat(30)));
        Due.is("6 slot before error", BAD, x.initial(3, "&"));
    }

    private static void promise6SyntaxErrors() {
        Bench x = new Bench();
        x.create(0, 3, 1);
        String[] texts = {"", "3", "9", "&", "|", ")", "(", "0&", "0|", "0&3", "00", "0(", "0t", "tf", "()", "(0",
            "(0&", "(0))", "(0)0", "0&&1", "0|&1", " 0", "0 ", "T", "(0|1", "((0)", "0|(1&2)|x", "a", "0&(", "1&(2|)"};
        int[] offsets = {0, 0, 0, 0, 0, 0, 1, 2, 2, 2, 1, 1, 1, 1, 1, 2,
            3, 3, 3, 2, 2, 0, 1, 0, 4, 4, 8, 0, 3, 5};
        x.initial(0, "0&1");
        for (int i = 0; i < texts.length; i++) {
            Due.is("6 error in " + texts[i], -100 - offsets[i], x.initial(0, texts[i]));
            Due.is("6 formula stays", "0&1", x.shown(0, -1, 0));
        }
        x.append(0, 1);
        Due.is("6 character 0", -100, x.setInitial(0));
        x.type("0");
        x.append(127, 1);
        Due.is("6 character 127", -101, x.setInitial(0));
    }

    private static void promise7SetTransition() {
        Bench x = new Bench();
        x.create(1, 6, 3);
        Due.is("7 nodes", 3, x.move(1, 5, 2, "5|4"));
        Due.is("7 nodes", 5, x.move(1, 0, 0, "(5|4)&t"));
        Due.is("7 formula", "5|4", x.shown(1, 5, 2));
        Due.is("7 formula", "(5|4)&t", x.shown(1, 0, 0));
        Due.is("7 other formula", "f", x.shown(1, 5, 1));
        Due.is("7 other formula", "f", x.shown(1, 4, 2));
        int[][] wrong = {{-1, 0, 0}, {3, 0, 0}, {1, -1, 0}, {1, 6, 0}, {1, 0, -1}, {1, 0, 3}, {0, 1, 0}, {0, 0, 1},
            {MIN, 0, 0}, {1, MIN, 0}, {1, MAX, 0}, {1, 0, MIN}, {1, 0, MAX}};
        for (int[] w : wrong) {
            Due.is("7 wrong", BAD, x.move(w[0], w[1], w[2], "0"));
            Due.is("7 text is empty", -100, x.setTransition(1, 1, 1));
        }
        Due.is("7 error", -101, x.move(1, 5, 2, "0)"));
        Due.is("7 state of the slot's automaton", -100, x.move(0, 0, 0, "1"));
        Due.is("7 full", FULL, x.move(1, 5, 2, "0&".repeat(20) + "1"));
        Due.is("7 text is empty after full", -100, x.setTransition(1, 5, 2));
        Due.is("7 formula stays", "5|4", x.shown(1, 5, 2));
        Due.is("7 initial formula stays", "f", x.shown(1, -1, 0));
    }

    private static void promise8Property() {
        Bench x = new Bench();
        x.create(0, 4, 2);
        x.setFinal(0, 3, 1);
        x.setWeight(0, 0, 3);
        x.setWeight(0, 1, 7);
        int[] due = {4, 2, 8, 3, 7, NONE};
        for (int what = 0; what < 6; what++) {
            Due.is("8 property " + what, due[what], x.property(0, what));
        }
        Due.is("8 no such letter", NONE, x.property(1, 4));
        Due.is("8 wrong", BAD, x.property(0, -1));
        Due.is("8 wrong", BAD, x.property(0, 6));
        Due.is("8 wrong", BAD, x.property(0, MIN));
        Due.is("8 wrong", BAD, x.property(0, MAX));
        Due.is("8 wrong", BAD, x.property(-1, 0));
        Due.is("8 wrong", BAD, x.property(3, 0));
    }

    private static void promise9And10Print() {
        Bench x = new Bench();
        x.create(0, 6, 3);
        String[] texts = {"0", "t", "f", "(0)", "0|1|2", "(0|1)|2", "0|(1|2)", "0&1&2", "(0&1)&2", "0&(1&2)", "0&1|2",
            "(0&1)|2", "0|1&2", "0|(1&2)", "(0|1)&2", "0&(1|2)", "(0|1)&(2|3)", "((0|1)&2)|(3|(4&5))",
            "0|(1|(2|(3|4)))", "0&(1|(2&(3|4)))", "((((0|1)&2)|3)&4)"};
        String[] due = {"0", "t", "f", "0", "0|1|2", "0|1|2", "0|(1|2)", "0&1&2", "0&1&2", "0&(1&2)", "0&1|2",
            "0&1|2", "0|1&2", "0|1&2", "(0|1)&2", "0&(1|2)", "(0|1)&(2|3)", "(0|1)&2|(3|4&5)",
            "0|(1|(2|(3|4)))", "0&(1|2&(3|4))", "((0|1)&2|3)&4"};
        for (int i = 0; i < texts.length; i++) {
            x.move(0, 1, 1, texts[i]);
            Due.is("9 length", due[i].length(), x.print(0, 1, 1));
            Due.is("9 " + texts[i], due[i], x.shownBefore());
        }
        Due.is("9 letter is ignored", 1, x.print(0, -1, MIN));
        Due.is("9 letter is ignored", 1, x.print(0, -1, 77));
        x.move(0, 1, 1, "3&4");
        x.print(0, 1, 1);
        int[][] wrong = {{-1, 0, 0}, {3, 0, 0}, {0, -2, 0}, {0, 6, 0}, {0, 0, -1}, {0, 0, 3}, {1, 1, 0}, {1, 0, 1},
            {MAX, -1, 0}, {0, MIN, 0}, {0, MAX, 0}, {0, 0, MIN}, {0, 0, MAX}};
        for (int[] w : wrong) {
            Due.is("9 wrong", BAD, x.print(w[0], w[1], w[2]));
        }
        Due.is("9 printed text stays", "3&4", x.shownBefore());
        Due.is("10 first", '3', x.printed(0));
        Due.is("10 last", '4', x.printed(2));
        Due.is("10 none", NONE, x.printed(3));
        Due.is("10 none", NONE, x.printed(-1));
        Due.is("10 none", NONE, x.printed(MIN));
        Due.is("10 none", NONE, x.printed(MAX));
        x.move(0, 1, 1, "t");
        Due.is("10 print is what shows a formula", '3', x.printed(0));
        x.print(0, 1, 1);
        Due.is("10 replaced", "t", x.shownBefore());
    }

    private static void promise11IsSatisfied() {
        Bench x = new Bench();
        x.create(0, 3, 2);
        x.initial(0, "0&1|2");
        x.move(0, 2, 1, "0&(1|2)");
        int[] dueInitial = {0, 0, 0, 1, 1, 1, 1, 1};
        int[] dueMove = {0, 0, 0, 1, 0, 1, 0, 1};
        for (int set = 0; set < 8; set++) {
            Due.is("11 initial " + set, dueInitial[set], x.isSatisfied(0, -1, 99, set));
            Due.is("11 transition " + set, dueMove[set], x.isSatisfied(0, 2, 1, set));
            Due.is("11 false " + set, 0, x.isSatisfied(0, 0, 0, set));
        }
        x.move(0, 0, 0, "t");
        Due.is("11 true", 1, x.isSatisfied(0, 0, 0, 0));
        int[][] wrong = {{-1, 0, 0, 0}, {3, 0, 0, 0}, {0, -2, 0, 0}, {0, 3, 0, 0}, {0, 0, -1, 0}, {0, 0, 2, 0},
            {0, 0, 0, -1}, {0, 0, 0, 8}, {0, -1, 0, 8}, {1, 0, 0, 2}, {0, 0, 0, MIN}, {0, 0, 0, MAX}, {MIN, 0, 0, 0}};
        for (int[] w : wrong) {
            Due.is("11 wrong", BAD, x.isSatisfied(w[0], w[1], w[2], w[3]));
        }
        x.create(0, 6, 1);
        x.initial(0, "0&1&2&3&4&5");
        Due.is("11 all states", 1, x.isSatisfied(0, -1, 0, 63));
        Due.is("11 one is missing", 0, x.isSatisfied(0, -1, 0, 31));
        Due.is("11 no set", BAD, x.isSatisfied(0, -1, 0, 64));
    }

    private static void models(String text, int... due) {
        Bench x = new Bench();
        x.create(0, 6, 1);
        x.initial(0, text);
        Due.is("12 number of models of " + text, due.length, x.model(0, -1, 0, -1));
        for (int i = 0; i < due.length; i++) {
            Due.is("12 model " + i + " of " + text, due[i], x.model(0, -1, 0, i));
        }
        Due.is("12 no more models of " + text, NONE, x.model(0, -1, 0, due.length));
        Due.is("12 no more models of " + text, NONE, x.model(0, -1, 0, MAX));
    }

    private static void promise12Model() {
        models("t", 0);
        models("f");
        models("5", 32);
        models("0|0&1", 1);
        models("0&1|5", 32, 3);
        models("3|2|1|0", 1, 2, 4, 8);
        models("(0|1)&(0|2)", 1, 6);
        models("0&f|4&t", 16);
        models("0|t", 0);
        models("(0|1)&(2|3)&(4|5)", 21, 22, 25, 26, 37, 38, 41, 42);
        models("0&1&2&3&4&5", 63);
        models("0&1&2|4&5|1&3", 10, 48, 7);
        Bench x = new Bench();
        x.create(0, 2, 2);
        x.move(0, 1, 1, "0&1");
        Due.is("12 transition", 3, x.model(0, 1, 1, 0));
        int[][] wrong = {{-1, 0, 0, 0}, {3, 0, 0, 0}, {0, -2, 0, 0}, {0, 2, 0, 0}, {0, 0, -1, 0}, {0, 0, 2, 0},
            {0, 0, 0, -2}, {0, -1, 0, -2}, {0, 0, 0, MIN}, {MAX, 0, 0, 0}, {0, MIN, 0, 0}};
        for (int[] w : wrong) {
            Due.is("12 wrong", BAD, x.model(w[0], w[1], w[2], w[3]));
        }
    }

    private static void promise13And14Word() {
        Bench x = new Bench();
        for (int i = 1; i <= 12; i++) {
            Due.is("13 push", i, x.push(i % 3));
        }
        Due.is("13 full", FULL, x.push(0));
        Due.is("13 wrong before full", BAD, x.push(3));
        Due.is("13 wrong", BAD, x.push(-1));
        Due.is("14 clear", 12, x.clearWord());
        Due.is("14 clear", 0, x.clearWord());
        Due.is("13 wrong", BAD, x.push(MAX));
        Due.is("13 wrong", BAD, x.push(MIN));
        Due.is("13 push", 1, x.push(2));
        Due.is("14 clear", 1, x.clearWord());
    }

    /** Words over 0 and 1 with an even number of letters 0 and with a 1 as their last letter. */
    private static Bench evenZerosThenOne() {
        Bench x = new Bench();
        x.create(0, 4, 2);
        x.initial(0, "0&2");
        x.move(0, 0, 0, "1");
        x.move(0, 0, 1, "0");
        x.move(0, 1, 0, "0");
        x.move(0, 1, 1, "1");
        x.move(0, 2, 0, "2");
        x.move(0, 2, 1, "2|3");
        x.setFinal(0, 0, 1);
        x.setFinal(0, 3, 1);
        return x;
    }

    private static void promise15And16Acceptance() {
        Bench x = evenZerosThenOne();
        String[] words = {"", "1", "0", "01", "001", "0101", "010", "1111", "000001", "0000001", "101010101011"};
        int[] due = {0, 1, 0, 0, 1, 1, 0, 1, 0, 1, 0};
        for (int i = 0; i < words.length; i++) {
            x.word(words[i]);
            Due.is("16 " + words[i], due[i], x.accepts(0));
        }
        x.word("001");
        Due.is("15 at 0", 5, x.acceptingStates(0, 0));
        Due.is("15 at 1", 6, x.acceptingStates(0, 1));
        Due.is("15 at 2", 5, x.acceptingStates(0, 2));
        Due.is("15 at 3", 9, x.acceptingStates(0, 3));
        Due.is("15 wrong", BAD, x.acceptingStates(0, 4));
        Due.is("15 wrong", BAD, x.acceptingStates(0, -1));
        Due.is("15 wrong", BAD, x.acceptingStates(0, MIN));
        Due.is("15 wrong", BAD, x.acceptingStates(0, MAX));
        Due.is("15 wrong", BAD, x.acceptingStates(3, 0));
        Due.is("15 wrong", BAD, x.acceptingStates(-1, 0));
        Due.is("16 wrong", BAD, x.accepts(3));
        Due.is("16 wrong", BAD, x.accepts(-1));
        x.word("2001");
        Due.is("15 mismatch", MISMATCH, x.acceptingStates(0, 1));
        Due.is("15 mismatch at the end", MISMATCH, x.acceptingStates(0, 4));
        Due.is("15 wrong before mismatch", BAD, x.acceptingStates(0, 5));
        Due.is("16 mismatch", MISMATCH, x.accepts(0));
        Due.is("16 wrong before mismatch", BAD, x.accepts(3));
        x.create(1, 1, 3);
        x.initial(1, "t");
        Due.is("16 true accepts all", 1, x.accepts(1));
        x.initial(1, "f");
        Due.is("16 false accepts none", 0, x.accepts(1));
    }

    private static int rankOf(String text, int finals, String letters) {
        Bench x = gameOf(text, finals, letters);
        return x.rank(0, 0, 0);
    }

    /** State 0 moves by the text; states 1 to 3 stay by every letter, and 4 and 5 go to true and false. */
    private static Bench gameOf(String text, int finals, String letters) {
        Bench x = new Bench();
        x.create(0, 6, 2);
        for (int letter = 0; letter < 2; letter++) {
            x.move(0, 0, letter, text);
            for (int state = 1; state < 4; state++) {
                x.move(0, state, letter, String.valueOf(state));
            }
            x.move(0, 4, letter, "t");
            x.move(0, 5, letter, "f");
        }
        for (int state = 0; state < 6; state++) {
            x.setFinal(0, state, finals >> state & 1);
        }
        x.word(letters);
        return x;
    }

    private static void promise17Rank() {
        Due.is("17 has won", 0, rankOf("f", 1, ""));
        Due.is("17 has lost", 10000, rankOf("t", 0, ""));
        Due.is("17 true", 1, rankOf("t", 0, "0"));
        Due.is("17 false", 10001, rankOf("f", 0, "0"));
        Due.is("17 state", 1, rankOf("1", 2, "0"));
        Due.is("17 state", 10001, rankOf("1", 0, "0"));
        Due.is("17 long way", 12, rankOf("1", 2, "010101010101"));
        Due.is("17 quick win by a disjunction", 2, rankOf("t|1", 2, "0000"));
        Due.is("17 quick win on the right", 2, rankOf("1|t", 2, "0000"));
        Due.is("17 only the slow part is won", 5, rankOf("f|1", 2, "0000"));
        Due.is("17 a lost disjunction is dragged out", 10005, rankOf("f|1", 0, "0000"));
        Due.is("17 a won conjunction is dragged out", 5, rankOf("t&1", 2, "0000"));
        Due.is("17 the opponent's quick win", 10002, rankOf("1&f", 0, "0000"));
        Due.is("17 the opponent wins one part", 10005, rankOf("t&1", 0, "0000"));
        Due.is("17 the opponent takes the won part", 10005, rankOf("1&(t|t|t)", 0, "0000"));
        Bench x = gameOf("4&1|5", 2, "0101");
        Due.is("17 at 0", 6, x.rank(0, 0, 0));
        Due.is("17 at 3", 10003, x.rank(0, 3, 0));
        Due.is("17 at the end", 10000, x.rank(0, 4, 0));
        Due.is("17 at the end", 0, x.rank(0, 4, 1));
        int[][] wrong = {{-1, 0, 0}, {3, 0, 0}, {0, -1, 0}, {0, 5, 0}, {0, 0, -1}, {0, 0, 6}, {1, 0, 1},
            {0, MIN, 0}, {0, MAX, 0}, {0, 0, MIN}, {0, 0, MAX}};
        for (int[] w : wrong) {
            Due.is("17 wrong", BAD, x.rank(w[0], w[1], w[2]));
        }
        x.push(2);
        Due.is("17 mismatch", MISMATCH, x.rank(0, 0, 0));
        Due.is("17 mismatch at the end", MISMATCH, x.rank(0, 5, 0));
        Due.is("17 wrong before mismatch", BAD, x.rank(0, 6, 0));
    }

    private static int strategyOf(String text, int finals, String letters) {
        return gameOf(text, finals, letters).strategy(0, 0, 0);
    }

    private static void promise18Strategy() {
        Due.is("18 true leads nowhere", 0, strategyOf("t", 0, "0"));
        Due.is("18 state", 2, strategyOf("1", 2, "0"));
        Due.is("18 lost", NONE, strategyOf("1", 0, "0"));
        Due.is("18 false", NONE, strategyOf("f", 0, "0"));
        Due.is("18 conjunction", 6, strategyOf("1&2", 6, "0"));
        Due.is("18 left of equals", 2, strategyOf("1|2", 6, "0"));
        Due.is("18 left of equals", 4, strategyOf("2|1", 6, "0"));
        Due.is("18 the won one", 4, strategyOf("1|2", 4, "0"));
        Due.is("18 the quicker one", 16, strategyOf("1|4", 2, "000"));
        Due.is("18 the quicker one", 16, strategyOf("4|1", 2, "000"));
        Due.is("18 the quicker part", 0, strategyOf("1|2|t", 6, "000"));
        Due.is("18 won and quicker than lost", 2, strategyOf("5|1", 2, "000"));
        Due.is("18 parts of a conjunction", 10, strategyOf("(1|2)&(3|1&2)", 14, "0"));
        Due.is("18 least rank", 8, strategyOf("1&2|3", 14, "00"));
        Due.is("18 the same rank", 6, strategyOf("1&2|(3|3)", 14, "00"));
        Bench x = gameOf("1|2", 6, "01");
        Due.is("18 at 1", 2, x.strategy(0, 1, 0));
        int[][] wrong = {{-1, 0, 0}, {3, 0, 0}, {0, -1, 0}, {0, 2, 0}, {0, 0, -1}, {0, 0, 6},
            {0, MIN, 0}, {0, MAX, 0}, {0, 0, MIN}, {0, 0, MAX}};
        for (int[] w : wrong) {
            Due.is("18 wrong", BAD, x.strategy(w[0], w[1], w[2]));
        }
        x.push(2);
        Due.is("18 mismatch", MISMATCH, x.strategy(0, 0, 0));
        Due.is("18 mismatch before none", MISMATCH, x.strategy(0, 0, 5));
        x.clearWord();
        Due.is("18 no letter to read", BAD, x.strategy(0, 0, 0));
    }

    private static void promise19ReverseStep() {
        Bench x = evenZerosThenOne();
        Due.is("19 letter 1", 5, x.reverseStep(0, 1, 9));
        Due.is("19 letter 0", 2, x.reverseStep(0, 0, 9));
        Due.is("19 empty set", 0, x.reverseStep(0, 0, 0));
        Due.is("19 all states", 7, x.reverseStep(0, 0, 15));
        x.move(0, 3, 0, "t");
        Due.is("19 true", 8, x.reverseStep(0, 0, 0));
        int[][] wrong = {{-1, 0, 0}, {3, 0, 0}, {0, -1, 0}, {0, 2, 0}, {0, 0, -1}, {0, 0, 16}, {1, 0, 2},
            {0, MIN, 0}, {0, MAX, 0}, {0, 0, MIN}, {0, 0, MAX}};
        for (int[] w : wrong) {
            Due.is("19 wrong", BAD, x.reverseStep(w[0], w[1], w[2]));
        }
    }

    private static Bench rotation(int states) {
        Bench x = new Bench();
        x.create(0, states, 1);
        for (int state = 0; state < states; state++) {
            x.move(0, state, 0, String.valueOf((state + 1) % states));
        }
        x.setFinal(0, 0, 1);
        return x;
    }

    private static void promise20ReverseStates() {
        Bench x = rotation(6);
        Due.is("20 rotation", 6, x.reverseStates(0));
        x.setFinal(0, 3, 1);
        Due.is("20 rotation by half", 3, x.reverseStates(0));
        Due.is("20 new", 1, x.reverseStates(1));
        Due.is("20 reads both letters", 5, evenZerosThenOne().reverseStates(0));
        Due.is("20 wrong", BAD, x.reverseStates(-1));
        Due.is("20 wrong", BAD, x.reverseStates(3));
        // A rotation, a swap and a join make every set but the empty one out of a single state.
        x.create(2, 6, 3);
        for (int state = 0; state < 6; state++) {
            x.move(2, state, 0, String.valueOf((state + 1) % 6));
            x.move(2, state, 1, String.valueOf(state == 0 ? 1 : state == 1 ? 0 : state));
            x.move(2, state, 2, state == 0 ? "0|1" : String.valueOf(state));
        }
        x.setFinal(2, 0, 1);
        Due.is("20 all sets but the empty one", 63, x.reverseStates(2));
        x.move(2, 0, 2, "0&1");
        Due.is("20 a meet instead of the join", 7, x.reverseStates(2));
    }

    private static void promise21ReverseClasses() {
        Bench x = rotation(6);
        Due.is("21 none is accepting", 1, x.reverseClasses(0));
        x.initial(0, "t");
        Due.is("21 all are accepting", 1, x.reverseClasses(0));
        x.initial(0, "0");
        Due.is("21 every sixth", 6, x.reverseClasses(0));
        x.initial(0, "0|3");
        Due.is("21 every third", 3, x.reverseClasses(0));
        x.initial(0, "0|2|4");
        Due.is("21 every second", 2, x.reverseClasses(0));
        Due.is("21 new", 1, x.reverseClasses(1));
        Due.is("21 even zeros then one", 4, evenZerosThenOne().reverseClasses(0));
        Due.is("21 wrong", BAD, x.reverseClasses(-1));
        Due.is("21 wrong", BAD, x.reverseClasses(3));
    }

    private static void promise22ExistentialStates() {
        Bench x = rotation(6);
        Due.is("22 starts nowhere", 0, x.existentialStates(0));
        x.initial(0, "t");
        Due.is("22 empty set", 1, x.existentialStates(0));
        x.initial(0, "0");
        Due.is("22 rotation", 6, x.existentialStates(0));
        x.initial(0, "0&3");
        Due.is("22 rotation by half", 3, x.existentialStates(0));
        x.initial(0, "0&3|0");
        Due.is("22 only minimal models", 6, x.existentialStates(0));
        x.move(0, 0, 0, "f");
        x.initial(0, "0");
        Due.is("22 goes nowhere", 1, x.existentialStates(0));
        x.move(0, 0, 0, "t|1");
        Due.is("22 goes to the empty set alone", 2, x.existentialStates(0));
        // From {0} to {1} or {2}, from {1} to {0, 2}, and no further.
        x.create(1, 3, 1);
        x.initial(1, "0");
        x.move(1, 0, 0, "1|2");
        x.move(1, 1, 0, "0&2");
        Due.is("22 branches", 4, x.existentialStates(1));
        Due.is("22 wrong", BAD, x.existentialStates(-1));
        Due.is("22 wrong", BAD, x.existentialStates(3));
    }

    private static void promise23ExistentialSets() {
        Bench x = new Bench();
        x.create(0, 3, 2);
        x.initial(0, "0|1&2");
        x.move(0, 0, 0, "0|1");
        x.move(0, 1, 0, "2|0");
        x.move(0, 2, 0, "t");
        x.setFinal(0, 0, 1);
        Due.is("23 at first", 2, x.existentialSets(0, 0));
        Due.is("23 accepting at first", 1, x.existentialSets(0, 1));
        x.push(0);
        // From {0} to {0} or {1}; from {1, 2} to {0} or {2}.
        Due.is("23 after 0", 3, x.existentialSets(0, 0));
        Due.is("23 accepting after 0", 1, x.existentialSets(0, 1));
        x.push(0);
        // And {2} goes to the empty set, all of whose states are final.
        Due.is("23 after 00", 4, x.existentialSets(0, 0));
        Due.is("23 accepting after 00", 2, x.existentialSets(0, 1));
        x.push(1);
        Due.is("23 the empty set stays", 1, x.existentialSets(0, 0));
        Due.is("23 the empty set is accepting", 1, x.existentialSets(0, 1));
        int[][] wrong = {{-1, 0}, {3, 0}, {0, -1}, {0, 2}, {0, MIN}, {0, MAX}, {MIN, 0}};
        for (int[] w : wrong) {
            Due.is("23 wrong", BAD, x.existentialSets(w[0], w[1]));
        }
        Due.is("23 mismatch", MISMATCH, x.existentialSets(1, 0));
        Due.is("23 wrong before mismatch", BAD, x.existentialSets(1, 2));
    }

    private static void promise24RelevantStates() {
        Bench x = rotation(6);
        Due.is("24 none", 0, x.relevantStates(0));
        x.initial(0, "5");
        Due.is("24 all by and by", 63, x.relevantStates(0));
        x.move(0, 2, 0, "t");
        x.initial(0, "0");
        Due.is("24 until a formula has no states", 7, x.relevantStates(0));
        x.initial(0, "f&2|t");
        Due.is("24 in the formula, though of no weight", 4, x.relevantStates(0));
        x.create(1, 4, 3);
        x.initial(1, "1");
        x.move(1, 1, 2, "3&f");
        x.move(1, 0, 0, "2");
        Due.is("24 all letters", 10, x.relevantStates(1));
        Due.is("24 wrong", BAD, x.relevantStates(-1));
        Due.is("24 wrong", BAD, x.relevantStates(3));
    }

    /** Four states without transitions, the last one final, and the given weights. */
    private static Bench chooser(int weight0, int weight1, int weight2) {
        Bench x = new Bench();
        x.create(0, 4, 3);
        x.setWeight(0, 0, weight0);
        x.setWeight(0, 1, weight1);
        x.setWeight(0, 2, weight2);
        x.setFinal(0, 3, 1);
        return x;
    }

    private static void promise25FindCheapest() {
        Bench x = evenZerosThenOne();
        Due.is("25 shortest", 1, x.findCheapest(0));
        Due.is("25 word", "1", x.foundWord());
        Due.is("25 cost", 1, x.foundCost());
        x.setWeight(0, 1, 9);
        Due.is("25 weight", 1, x.findCheapest(0));
        Due.is("25 cost", 9, x.foundCost());
        x.setWeight(0, 1, 1);
        Due.is("25 the cost stays", 9, x.foundCost());
        Due.is("25 empty language", NONE, x.findCheapest(1));
        Due.is("25 found word stays", "1", x.foundWord());
        Due.is("25 cost stays", 9, x.foundCost());
        Due.is("25 wrong", BAD, x.findCheapest(-1));
        Due.is("25 wrong", BAD, x.findCheapest(3));
        Due.is("25 found word stays", "1", x.foundWord());
        x.initial(1, "t");
        Due.is("25 empty word", 0, x.findCheapest(1));
        Due.is("25 empty word", "", x.foundWord());
        Due.is("25 empty word", 0, x.foundCost());
        x.word("0");
        Due.is("25 the word is another", 1, x.clearWord());
    }

    private static void promise25Ties() {
        // Either one letter 2 or two letters 0 or 1, in the end.
        Bench x = chooser(2, 2, 5);
        x.initial(0, "0");
        x.move(0, 0, 2, "3");
        x.move(0, 0, 1, "1");
        x.move(0, 0, 0, "2");
        x.move(0, 1, 0, "3");
        x.move(0, 2, 1, "3");
        Due.is("25 cheaper though longer", 2, x.findCheapest(0));
        Due.is("25 01 before 10", "01", x.foundWord());
        Due.is("25 cost", 4, x.foundCost());
        x.setWeight(0, 2, 4);
        Due.is("25 shorter of the same cost", 1, x.findCheapest(0));
        Due.is("25 2 before 01", "2", x.foundWord());
        x.setWeight(0, 2, 9);
        x.move(0, 2, 1, "f");
        Due.is("25 only 10", 2, x.findCheapest(0));
        Due.is("25 only 10", "10", x.foundWord());
        x.move(0, 2, 2, "3");
        x.setWeight(0, 0, 9);
        x.setWeight(0, 1, 9);
        Due.is("25 letter 2", 1, x.findCheapest(0));
        x.move(0, 0, 2, "f");
        Due.is("25 02 before 10", 2, x.findCheapest(0));
        Due.is("25 02 before 10", "02", x.foundWord());
        Due.is("25 cost", 18, x.foundCost());
        x.setWeight(0, 2, 8);
        x.findCheapest(0);
        Due.is("25 02 is cheaper", "02", x.foundWord());
        x.setWeight(0, 1, 7);
        x.findCheapest(0);
        Due.is("25 10 is cheaper", "10", x.foundWord());
        // Two rotations at once: a number that is 2 modulo 3 and 1 modulo 2.
        x.create(1, 5, 1);
        x.initial(1, "0&3");
        String[] next = {"1", "2", "0", "4", "3"};
        for (int state = 0; state < 5; state++) {
            x.move(1, state, 0, next[state]);
        }
        x.setFinal(1, 2, 1);
        x.setFinal(1, 4, 1);
        x.setWeight(1, 0, 7);
        Due.is("25 both at once", 5, x.findCheapest(1));
        Due.is("25 cost", 35, x.foundCost());
    }

    private static void promise26FindDifference() {
        Bench x = new Bench();
        x.create(0, 3, 2);
        x.initial(0, "0");
        x.move(0, 0, 0, "1");
        x.move(0, 0, 1, "1");
        x.move(0, 1, 0, "2");
        x.move(0, 1, 1, "2");
        x.setFinal(0, 2, 1);
        x.setWeight(0, 0, 3);
        x.setWeight(0, 1, 4);
        x.create(1, 3, 2);
        x.initial(1, "0");
        x.move(1, 0, 0, "1");
        x.move(1, 0, 1, "1");
        x.move(1, 1, 0, "2");
        x.setFinal(1, 2, 1);
        x.setWeight(1, 0, 8);
        x.setWeight(1, 1, 9);
        Due.is("26 length", 2, x.findDifference(0, 1));
        Due.is("26 01 before 11", "01", x.foundWord());
        Due.is("26 cost in the first", 7, x.foundCost());
        Due.is("26 the other way", 2, x.findDifference(1, 0));
        Due.is("26 the same word", "01", x.foundWord());
        Due.is("26 cost in the first", 17, x.foundCost());
        Due.is("26 the same slot", NONE, x.findDifference(0, 0));
        Due.is("26 found word stays", "01", x.foundWord());
        x.move(1, 1, 1, "2");
        Due.is("26 the same language", NONE, x.findDifference(0, 1));
        Due.is("26 cost stays", 17, x.foundCost());
        x.setFinal(1, 0, 1);
        Due.is("26 empty word", 0, x.findDifference(0, 1));
        Due.is("26 empty word", "", x.foundWord());
        Due.is("26 empty word", 0, x.foundCost());
        x.setFinal(1, 0, 0);
        x.move(1, 0, 0, "f");
        x.setFinal(0, 2, 1);
        x.findDifference(0, 1);
        Due.is("26 00 is the first of 00 and 01", "00", x.foundWord());
        Due.is("26 mismatch", MISMATCH, x.findDifference(0, 2));
        Due.is("26 mismatch", MISMATCH, x.findDifference(2, 0));
        int[][] wrong = {{-1, 0}, {3, 0}, {0, -1}, {0, 3}, {3, 2}, {MIN, 0}, {0, MAX}};
        for (int[] w : wrong) {
            Due.is("26 wrong", BAD, x.findDifference(w[0], w[1]));
        }
        Due.is("26 found word stays", "00", x.foundWord());
        // Multiples of 3 against multiples of 5: the lengths 3, 5, 6, ... tell them apart; 0 does not.
        x.create(0, 3, 1);
        x.create(1, 5, 1);
        for (int slot = 0; slot < 2; slot++) {
            int states = slot == 0 ? 3 : 5;
            x.initial(slot, "0");
            x.setFinal(slot, 0, 1);
            for (int state = 0; state < states; state++) {
                x.move(slot, state, 0, String.valueOf((state + 1) % states));
            }
        }
        Due.is("26 three", 3, x.findDifference(0, 1));
    }

    private static void promise27And28Found() {
        Bench x = evenZerosThenOne();
        x.move(0, 2, 1, "2");
        x.move(0, 2, 0, "3|2");
        x.setWeight(0, 0, 4);
        Due.is("27 length", 2, x.findCheapest(0));
        Due.is("27 letter", 0, x.foundLetter(0));
        Due.is("27 letter", 0, x.foundLetter(1));
        Due.is("27 none", NONE, x.foundLetter(2));
        Due.is("27 none", NONE, x.foundLetter(-1));
        Due.is("27 none", NONE, x.foundLetter(MAX));
        Due.is("27 none", NONE, x.foundLetter(MIN));
        Due.is("28 cost", 8, x.foundCost());
        x.create(0, 1, 1);
        x.clearWord();
        Due.is("28 cost stays", 8, x.foundCost());
        Due.is("27 letter stays", 0, x.foundLetter(1));
    }

    private static void promise29IsContained() {
        Bench x = evenZerosThenOne();
        x.create(1, 2, 2);
        x.initial(1, "0");
        x.move(1, 0, 0, "0");
        x.move(1, 0, 1, "0|1");
        x.setFinal(1, 1, 1);
        Due.is("29 contained", 1, x.isContained(0, 1));
        Due.is("29 not contained", 0, x.isContained(1, 0));
        Due.is("29 itself", 1, x.isContained(0, 0));
        x.create(2, 1, 2);
        Due.is("29 the empty language", 1, x.isContained(2, 0));
        Due.is("29 in the empty language", 0, x.isContained(0, 2));
        x.setFinal(1, 0, 1);
        Due.is("29 still contained", 1, x.isContained(0, 1));
        int cost = x.foundCost();
        Due.is("29 finds no word", NONE, x.foundLetter(0));
        Due.is("29 finds no cost", 0, cost);
        x.create(2, 1, 1);
        Due.is("29 mismatch", MISMATCH, x.isContained(0, 2));
        int[][] wrong = {{-1, 0}, {3, 0}, {0, -1}, {0, 3}, {2, 3}, {MIN, 0}, {0, MAX}};
        for (int[] w : wrong) {
            Due.is("29 wrong", BAD, x.isContained(w[0], w[1]));
        }
    }

    private static void promise30CountWords() {
        Bench x = evenZerosThenOne();
        long[] due = {0, 1, 1, 2, 4, 8};
        for (int length = 0; length < due.length; length++) {
            Due.is("30 length " + length, due[length], x.countWords(0, length));
        }
        Due.is("30 length 20", 1L << 18, x.countWords(0, 20));
        x.create(1, 1, 3);
        Due.is("30 none", 0, x.countWords(1, 20));
        x.initial(1, "t");
        Due.is("30 all words", 3486784401L, x.countWords(1, 20));
        Due.is("30 the empty word", 1, x.countWords(1, 0));
        Due.is("30 wrong", -1, x.countWords(1, -1));
        Due.is("30 wrong", -1, x.countWords(1, 21));
        Due.is("30 wrong", -1, x.countWords(1, MIN));
        Due.is("30 wrong", -1, x.countWords(1, MAX));
        Due.is("30 wrong", -1, x.countWords(3, 0));
        Due.is("30 wrong", -1, x.countWords(-1, 0));
    }

    private static void promise31Dualize() {
        Bench x = evenZerosThenOne();
        x.initial(0, "(0|f)&(2&t)|3");
        x.setWeight(0, 1, 6);
        x.create(2, 6, 3);
        Due.is("31 finals", 6, x.dualize(0, 2));
        Due.is("31 states", 4, x.property(2, 0));
        Due.is("31 letters", 2, x.property(2, 1));
        Due.is("31 finals", 6, x.property(2, 2));
        Due.is("31 weight", 6, x.property(2, 4));
        Due.is("31 no third letter", NONE, x.property(2, 5));
        Due.is("31 initial", "(0&t|(2|f))&3", x.shown(2, -1, 0));
        Due.is("31 transition", "2&3", x.shown(2, 2, 1));
        Due.is("31 false", "t", x.shown(2, 3, 0));
        Due.is("31 the source stays", "(0|f)&(2&t)|3", x.shown(0, -1, 0));
        for (int length = 0; length < 10; length++) {
            Due.is("31 complement", 1L << length, x.countWords(0, length) + x.countWords(2, length));
        }
        Due.is("31 in place", 9, x.dualize(2, 2));
        Due.is("31 twice", NONE, x.findDifference(0, 2));
        Due.is("31 twice", "2|3", x.shown(2, 2, 1));
        Due.is("31 models of the dual", 8, x.model(2, -1, 0, 0));
        int[][] wrong = {{-1, 0}, {3, 0}, {0, -1}, {0, 3}, {MIN, 0}, {0, MAX}};
        for (int[] w : wrong) {
            Due.is("31 wrong", BAD, x.dualize(w[0], w[1]));
        }
        Due.is("31 nothing changed", 9, x.property(0, 2));
    }

    private static void promise32Combine() {
        Bench x = new Bench();
        x.create(0, 2, 2);
        x.initial(0, "0|1");
        x.move(0, 0, 0, "0&1");
        x.move(0, 1, 1, "t");
        x.setFinal(0, 1, 1);
        x.setWeight(0, 0, 5);
        x.create(1, 3, 2);
        x.initial(1, "2|0");
        x.move(1, 0, 1, "2&(0|1)");
        x.move(1, 2, 0, "1|f");
        x.setFinal(1, 0, 1);
        x.setFinal(1, 2, 1);
        x.setWeight(1, 0, 8);
        Due.is("32 intersection", 5, x.combine(0, 1, 2, 1));
        Due.is("32 initial", "(0|1)&(4|2)", x.shown(2, -1, 0));
        Due.is("32 first states", "0&1", x.shown(2, 0, 0));
        Due.is("32 first states", "t", x.shown(2, 1, 1));
        Due.is("32 second states", "4&(2|3)", x.shown(2, 2, 1));
        Due.is("32 second states", "3|f", x.shown(2, 4, 0));
        Due.is("32 second states", "f", x.shown(2, 4, 1));
        Due.is("32 finals", 2 | 4 | 16, x.property(2, 2));
        Due.is("32 weights", 5, x.property(2, 3));
        Due.is("32 letters", 2, x.property(2, 1));
        Due.is("32 satisfied", 1, x.isSatisfied(2, 2, 1, 16 + 4));
        Due.is("32 not satisfied", 0, x.isSatisfied(2, 2, 1, 16 + 1));
        Due.is("32 contained", 1, x.isContained(2, 0));
        Due.is("32 contained", 1, x.isContained(2, 1));
        Due.is("32 union", 5, x.combine(0, 1, 2, 0));
        Due.is("32 initial", "0|1|(4|2)", x.shown(2, -1, 0));
        Due.is("32 contains", 1, x.isContained(0, 2));
        Due.is("32 contains", 1, x.isContained(1, 2));
        Due.is("32 the other way round", 5, x.combine(1, 0, 2, 0));
        Due.is("32 initial", "2|0|(3|4)", x.shown(2, -1, 0));
        Due.is("32 weights of the first", 8, x.property(2, 3));
        Due.is("32 into the second", 5, x.combine(0, 1, 1, 1));
        Due.is("32 initial", "(0|1)&(4|2)", x.shown(1, -1, 0));
        Due.is("32 second states", "4&(2|3)", x.shown(1, 2, 1));
        Due.is("32 with itself into itself", 4, x.combine(0, 0, 0, 0));
        Due.is("32 initial", "0|1|(2|3)", x.shown(0, -1, 0));
        Due.is("32 transition", "2&3", x.shown(0, 2, 0));
        Due.is("32 finals", 2 | 8, x.property(0, 2));
    }

    private static void promise32CombineLimits() {
        Bench x = new Bench();
        x.create(0, 3, 2);
        x.create(1, 4, 2);
        Due.is("32 seven states", FULL, x.combine(0, 1, 2, 0));
        Due.is("32 six states", 6, x.combine(0, 0, 2, 0));
        x.create(1, 1, 2);
        x.initial(0, "0&".repeat(9) + "1");
        x.initial(1, "0&".repeat(9) + "0");
        Due.is("32 39 nodes", 4, x.combine(0, 1, 2, 1));
        Due.is("32 length", 41, x.print(2, -1, 0));
        x.initial(1, "0&".repeat(10) + "0");
        Due.is("32 41 nodes", FULL, x.combine(0, 1, 2, 0));
        Due.is("32 nothing changed", 41, x.print(2, -1, 0));
        x.create(2, 6, 1);
        Due.is("32 mismatch before full", MISMATCH, x.combine(0, 2, 1, 0));
        int[][] wrong = {{-1, 0, 0, 0}, {3, 0, 0, 0}, {0, -1, 0, 0}, {0, 3, 0, 0}, {0, 0, -1, 0}, {0, 0, 3, 0},
            {0, 0, 0, -1}, {0, 0, 0, 2}, {0, 2, 3, 0}, {0, 2, 0, 2}, {MIN, 0, 0, 0}, {0, 0, MAX, 0}};
        for (int[] w : wrong) {
            Due.is("32 wrong", BAD, x.combine(w[0], w[1], w[2], w[3]));
        }
        Due.is("32 nothing changed", 1, x.property(1, 0));
    }

    private static void promise33And34Snapshot() {
        Bench x = evenZerosThenOne();
        Due.is("34 nothing", NOTHING, x.restore());
        x.setWeight(0, 1, 3);
        Due.is("33 states", 6, x.save());
        x.create(0, 6, 3);
        x.create(2, 5, 1);
        x.initial(0, "5");
        x.print(0, -1, 0);
        x.word("011");
        x.initial(2, "t");
        x.initial(1, "t");
        x.findDifference(1, 2);
        x.type("0&");
        Due.is("34 states", 6, x.restore());
        Due.is("34 text stays", 3, x.append('2', 1));
        Due.is("34 text stays", 3, x.setInitial(0));
        Due.is("34 printed text stays", "5", x.shownBefore());
        Due.is("34 word stays", 3, x.clearWord());
        Due.is("34 formula", "2|3", x.shown(0, 2, 1));
        Due.is("34 finals", 9, x.property(0, 2));
        Due.is("34 weight", 3, x.property(0, 4));
        Due.is("34 slot 2", 1, x.property(2, 0));
        Due.is("34 slot 2", "f", x.shown(2, -1, 0));
        x.findCheapest(0);
        x.create(0, 2, 2);
        Due.is("34 snapshot is kept", 6, x.restore());
        Due.is("34 found word stays", "1", x.foundWord());
        Due.is("34 cost stays", 3, x.foundCost());
        x.initial(0, "1");
        Due.is("34 changes do not reach the snapshot", 6, x.restore());
        Due.is("34 initial", "0&2", x.shown(0, -1, 0));
        x.create(1, 6, 1);
        Due.is("33 replaces", 11, x.save());
        x.create(1, 2, 1);
        Due.is("34 the newer one", 11, x.restore());
        Due.is("34 the newer one", 6, x.property(1, 0));
    }

    /** What a call leaves behind in the rows that calls share must not pile up within 512 calls. */
    private static void sameAnswersAgainAndAgain() {
        String deep = "0|(1|(2|(3|(4|(5|(0|(1|(2|3))))))))";
        Bench x = new Bench();
        x.create(0, 6, 1);
        x.initial(0, deep);
        for (int i = 0; i < 400; i++) {
            Due.is("9 again and again", deep.length(), x.print(0, -1, 0));
        }
        Due.is("9 after many prints", deep, x.shownBefore());
        Bench y = new Bench();
        y.create(0, 6, 1);
        for (int i = 0; i < 200; i++) {
            y.append('(', 3);
            Due.is("6 again and again", -103, y.setInitial(0));
        }
        Due.is("6 after many errors", 19, y.initial(0, deep));
        Bench z = evenZerosThenOne();
        z.dualize(0, 1);
        z.word("001");
        for (int i = 0; i < 60; i++) {
            Due.is("17 again and again", 3, z.rank(0, 0, 0));
            Due.is("26 again and again", 0, z.findDifference(0, 1));
            Due.is("29 again and again", 1, z.isContained(0, 0));
            Due.is("25 again and again", 1, z.findCheapest(0));
            Due.is("30 again and again", 4, z.countWords(0, 4));
            Due.is("21 again and again", 4, z.reverseClasses(0));
            Due.is("33 again and again", 9, z.save());
        }
    }
}
