import java.util.Random;

/** Random runs of calls, the same ones each time, on the class and on the oracle. */
public final class OracleTest {
    private static final int RUNS = 1500;
    private static final int CALLS = 512;

    private final Random random;
    private final int run;
    private AlternatingAutomata x = new AlternatingAutomata();
    private Oracle o = new Oracle();
    private int calls = 0;
    private static int skipped = 0;
    private static int longestFound = 0;
    private static int mostReached = 0;

    private OracleTest(int run) {
        this.run = run;
        this.random = new Random(7919L * run + 17);
    }

    public static void main(String[] args) {
        for (int run = 0; run < RUNS && !Due.hasFailed(); run++) {
            new OracleTest(run).play();
        }
        System.out.println(skipped + " answers skipped, longest found word " + longestFound
            + ", most reverse sets " + mostReached);
        Due.end();
    }

    private void due(String call, long want, long got) {
        calls++;
        if (want == Oracle.SKIPPED) {
            skipped++;
            // The oracle no longer knows the found word, so this run ends here.
            calls = CALLS;
            return;
        }
        Due.is("run " + run + " call " + calls + ": " + call, want, got);
    }

    private int below(int bound) {
        return random.nextInt(bound);
    }

    /** Mostly a number below the bound, at times one around it, rarely any at all. */
    private int about(int bound) {
        int chance = below(40);
        if (chance == 0) {
            return below(3) == 0 ? random.nextInt() : -1 - below(2);
        }
        return chance == 1 ? bound + below(2) : below(Math.max(bound, 1));
    }

    private void play() {
        for (int slot = 0; slot < 3; slot++) {
            build(slot, 1 + below(run % 3 == 0 ? 3 : 6));
        }
        while (calls < CALLS - 60 && !Due.hasFailed()) {
            playOne();
        }
        for (int slot = 0; slot < 3 && calls < CALLS; slot++) {
            show(slot, -1, 0);
            show(slot, below(o.statesOf(slot)), below(o.lettersOf(slot)));
        }
    }

    private void build(int slot, int states) {
        int letters = run % 2 == 0 ? 2 : 1 + below(3);
        due("create", o.create(slot, states, letters), x.create(slot, states, letters));
        int style = below(3);
        for (int a = 0; a < letters; a++) {
            int[] shuffled = shuffledStates(states);
            for (int p = 0; p < states && calls < CALLS / 2; p++) {
                if (style == 0) {
                    // Permutations keep sets apart, so that searches go far.
                    typeText(String.valueOf(shuffled[p]));
                } else {
                    typeText(randomFormula(states, style == 1 ? 0 : below(4)));
                }
                due("setTransition", o.setTransition(slot, p, a), x.setTransition(slot, p, a));
            }
        }
        for (int p = 0; p < states; p++) {
            int isFinal = below(2);
            due("setFinal", o.setFinal(slot, p, isFinal), x.setFinal(slot, p, isFinal));
        }
        typeText(randomFormula(states, below(4)));
        due("setInitial", o.setInitial(slot), x.setInitial(slot));
    }

    private int[] shuffledStates(int states) {
        int[] order = new int[states];
        for (int p = 0; p < states; p++) {
            int q = below(p + 1);
            order[p] = order[q];
            order[q] = p;
        }
        return order;
    }

    private String randomFormula(int states, int size) {
        if (size == 0) {
            int kind = below(16);
            return kind == 0 ? "t" : kind == 1 ? "f" : String.valueOf(below(states));
        }
        int left = below(size);
        String operator = below(2) == 0 ? "&" : "|";
        String text = randomFormula(states, left) + operator + randomFormula(states, size - 1 - left);
        return below(2) == 0 ? "(" + text + ")" : text;
    }

    private void typeText(String text) {
        for (int i = 0; i < text.length(); i++) {
            due("append", o.append(text.charAt(i), 1), x.append(text.charAt(i), 1));
        }
    }

    private void show(int slot, int state, int letter) {
        due("print", o.print(slot, state, letter), x.print(slot, state, letter));
        for (int i = 0; i <= o.printedLength(); i++) {
            Due.is("run " + run + " printed " + i, o.printed(i), x.printed(i));
        }
    }

    private void lookAtFound() {
        if (calls >= CALLS) {
            return;
        }
        longestFound = Math.max(longestFound, o.foundLength());
        for (int i = 0; i <= o.foundLength(); i++) {
            Due.is("run " + run + " foundLetter " + i, o.foundLetter(i), x.foundLetter(i));
        }
        due("foundCost", o.foundCost(), x.foundCost());
    }

    private void playOne() {
        int kind = below(36);
        if (kind < 8) {
            changeOne(kind);
        } else if (kind < 20) {
            askOne(kind);
        } else {
            searchOne(kind);
        }
    }

    private void typeAnything() {
        if (below(3) > 0) {
            String signs = "012345tf&|()&|()6 x";
            int count = below(4) == 0 ? about(61) : 1 + below(2);
            int code = below(20) == 0 ? about(128) : signs.charAt(below(signs.length()));
            due("append(" + code + ", " + count + ")", o.append(code, count), x.append(code, count));
        } else {
            typeText(randomFormula(6, below(25)));
        }
    }

    private void changeOne(int kind) {
        int slot = about(3);
        int inside = Math.floorMod(slot, 3);
        int state = about(o.statesOf(inside));
        int letter = about(o.lettersOf(inside));
        switch (kind) {
            case 0:
                typeText(randomFormula(o.statesOf(inside), below(6)));
                due("setInitial", o.setInitial(slot), x.setInitial(slot));
                break;
            case 1:
                typeText(randomFormula(o.statesOf(inside), below(6)));
                due("setTransition", o.setTransition(slot, state, letter), x.setTransition(slot, state, letter));
                break;
            case 2:
                int isFinal = about(2);
                due("setFinal", o.setFinal(slot, state, isFinal), x.setFinal(slot, state, isFinal));
                break;
            case 3:
                int weight = 1 + about(9);
                due("setWeight", o.setWeight(slot, letter, weight), x.setWeight(slot, letter, weight));
                break;
            case 4:
                typeAnything();
                due("setInitial", o.setInitial(slot), x.setInitial(slot));
                break;
            case 5:
                typeAnything();
                break;
            case 6:
                if (below(4) == 0) {
                    due("save", o.save(), x.save());
                } else if (below(3) == 0) {
                    due("restore", o.restore(), x.restore());
                }
                break;
            default:
                if (below(6) == 0) {
                    int states = 1 + about(6);
                    int letters = 1 + about(3);
                    due("create", o.create(slot, states, letters), x.create(slot, states, letters));
                }
        }
    }

    private void askOne(int kind) {
        int slot = about(3);
        int inside = Math.floorMod(slot, 3);
        int state = about(o.statesOf(inside));
        int stateOrNot = below(3) == 0 ? -1 : state;
        int letter = about(o.lettersOf(inside));
        int set = about(1 << o.statesOf(inside));
        int start = about(o.wordLength() + 1);
        switch (kind) {
            case 8:
                int what = about(6);
                due("property", o.property(slot, what), x.property(slot, what));
                break;
            case 9:
                show(slot, stateOrNot, letter);
                break;
            case 10:
                due("isSatisfied", o.isSatisfied(slot, stateOrNot, letter, set),
                    x.isSatisfied(slot, stateOrNot, letter, set));
                break;
            case 11:
                int position = below(4) == 0 ? -1 : about(4);
                due("model", o.model(slot, stateOrNot, letter, position), x.model(slot, stateOrNot, letter, position));
                break;
            case 12:
            case 13:
                int pushed = below(6) == 0 ? about(3) : below(2);
                due("push", o.push(pushed), x.push(pushed));
                break;
            case 14:
                if (below(6) == 0) {
                    due("clearWord", o.clearWord(), x.clearWord());
                }
                break;
            case 15:
                due("acceptingStates", o.acceptingStates(slot, start), x.acceptingStates(slot, start));
                break;
            case 16:
                due("accepts", o.accepts(slot), x.accepts(slot));
                break;
            case 17:
                due("rank", o.rank(slot, start, state), x.rank(slot, start, state));
                break;
            case 18:
                due("strategy", o.strategy(slot, start, state), x.strategy(slot, start, state));
                break;
            default:
                due("reverseStep", o.reverseStep(slot, letter, set), x.reverseStep(slot, letter, set));
        }
    }

    private void searchOne(int kind) {
        int slot = about(3);
        int other = about(3);
        int third = about(3);
        switch (kind) {
            case 20:
                mostReached = Math.max(mostReached, x.reverseStates(slot));
                due("reverseStates", o.reverseStates(slot), x.reverseStates(slot));
                break;
            case 21:
                due("reverseClasses", o.reverseClasses(slot), x.reverseClasses(slot));
                break;
            case 22:
                due("existentialStates", o.existentialStates(slot), x.existentialStates(slot));
                break;
            case 23:
                int accepting = about(2);
                due("existentialSets", o.existentialSets(slot, accepting), x.existentialSets(slot, accepting));
                break;
            case 24:
                due("relevantStates", o.relevantStates(slot), x.relevantStates(slot));
                break;
            case 25:
            case 26:
                due("findCheapest", o.findCheapest(slot), x.findCheapest(slot));
                lookAtFound();
                break;
            case 27:
            case 28:
                due("findDifference", o.findDifference(slot, other), x.findDifference(slot, other));
                lookAtFound();
                break;
            case 29:
                due("isContained", o.isContained(slot, other), x.isContained(slot, other));
                break;
            case 30:
                int length = about(21);
                due("countWords", o.countWords(slot, length), x.countWords(slot, length));
                break;
            case 31:
                if (below(3) == 0) {
                    due("dualize", o.dualize(slot, other), x.dualize(slot, other));
                }
                break;
            case 32:
                int operation = about(2);
                due("combine", o.combine(slot, other, third, operation), x.combine(slot, other, third, operation));
                break;
            case 33:
                int index = about(4);
                due("foundLetter", o.foundLetter(index), x.foundLetter(index));
                break;
            default:
                int at = about(o.printedLength() + 1);
                due("printed", o.printed(at), x.printed(at));
        }
    }
}
