import java.util.Random;

/** Found words that are longer than any word can be, from random automata, compared with the oracle's. */
public final class FarWordsTest {
    private static final int TRIES = 8000;
    private static final int FAR = 13;
    private static final int STATES = 6;

    private final Random random = new Random(20261118L);
    private int farOnes = 0;
    private int longest = 0;

    private FarWordsTest() {
    }

    public static void main(String[] args) {
        FarWordsTest test = new FarWordsTest();
        for (int i = 0; i < TRIES && !Due.hasFailed(); i++) {
            test.play(1 + i % 3);
        }
        System.out.println(test.farOnes + " far words, the longest has " + test.longest + " letters");
        Due.is("there are enough far words", 1, test.farOnes >= 100 && test.longest >= 20 ? 1 : 0);
        Due.end();
    }

    private void play(int letters) {
        AlternatingAutomata x = new AlternatingAutomata();
        Oracle o = new Oracle();
        build(x, o, letters);
        if (x.findCheapest(0) < FAR) {
            return;
        }
        long want = o.findCheapest(0);
        if (want == Oracle.SKIPPED) {
            return;
        }
        farOnes++;
        longest = Math.max(longest, (int) want);
        Due.is("cheapest", want, x.findCheapest(0));
        compareFound("cheapest", x, o);
        o.create(1, 1, letters);
        x.create(1, 1, letters);
        Due.is("contained", o.isContained(0, 1), x.isContained(0, 1));
        Due.is("difference", o.findDifference(0, 1), x.findDifference(0, 1));
        compareFound("difference", x, o);
        Due.is("difference to the dual", o.dualize(0, 1), x.dualize(0, 1));
        Due.is("difference to the dual", o.findDifference(0, 1), x.findDifference(0, 1));
    }

    private static void compareFound(String what, AlternatingAutomata x, Oracle o) {
        for (int i = 0; i <= o.foundLength(); i++) {
            Due.is(what + ", letter " + i, o.foundLetter(i), x.foundLetter(i));
        }
        Due.is(what + ", cost", o.foundCost(), x.foundCost());
    }

    /** A conjunction of four states is satisfied late where only one state is final and sets change slowly. */
    private void build(AlternatingAutomata x, Oracle o, int letters) {
        o.create(0, STATES, letters);
        x.create(0, STATES, letters);
        int[] order = shuffled();
        type(x, o, order[0] + "&" + order[1] + "&" + order[2] + "&" + order[3]);
        Due.is("setInitial", o.setInitial(0), x.setInitial(0));
        o.setFinal(0, 0, 1);
        x.setFinal(0, 0, 1);
        for (int letter = 0; letter < letters; letter++) {
            int[] next = shuffled();
            int weight = 1 + random.nextInt(9);
            Due.is("setWeight", o.setWeight(0, letter, weight), x.setWeight(0, letter, weight));
            for (int state = 0; state < STATES; state++) {
                type(x, o, formulaAround(next[state], letter));
                Due.is("setTransition", o.setTransition(0, state, letter), x.setTransition(0, state, letter));
            }
        }
    }

    private String formulaAround(int state, int letter) {
        int chance = random.nextInt(6);
        String other = String.valueOf(random.nextInt(STATES));
        if (chance == 0) {
            return letter == 0 ? state + "|" + other : state + "&" + other;
        }
        return chance == 1 && letter > 0 ? state + "&" + other + "|" + random.nextInt(STATES) : String.valueOf(state);
    }

    private int[] shuffled() {
        int[] order = new int[STATES];
        for (int i = 0; i < STATES; i++) {
            int j = random.nextInt(i + 1);
            order[i] = order[j];
            order[j] = i;
        }
        return order;
    }

    private static void type(AlternatingAutomata x, Oracle o, String text) {
        for (int i = 0; i < text.length(); i++) {
            Due.is("append", o.append(text.charAt(i), 1), x.append(text.charAt(i), 1));
        }
    }
}
