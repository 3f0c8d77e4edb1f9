/**
 * A workbench that counts its calls, because the document promises nothing after the 512th, with the steps that
 * most tests need.
 */
final class Bench {
    static final int MOST_CALLS = 512;
    private static final int NONE = -1;

    private final AlternatingAutomata x = new AlternatingAutomata();
    private int calls = 0;

    private AlternatingAutomata next() {
        calls++;
        if (calls > MOST_CALLS) {
            Due.is("calls on one object", MOST_CALLS, calls);
        }
        return x;
    }

    int callsSoFar() {
        return calls;
    }

    /** Types a text, a character at a time. */
    void type(String text) {
        for (int i = 0; i < text.length(); i++) {
            append(text.charAt(i), 1);
        }
    }

    int initial(int slot, String text) {
        type(text);
        return setInitial(slot);
    }

    int move(int slot, int state, int letter, String text) {
        type(text);
        return setTransition(slot, state, letter);
    }

    /** Sets the transition formulas of a state for all letters to the same one. */
    void moves(int slot, int state, int letters, String text) {
        for (int letter = 0; letter < letters; letter++) {
            move(slot, state, letter, text);
        }
    }

    void finals(int slot, int... states) {
        for (int state : states) {
            setFinal(slot, state, 1);
        }
    }

    String shown(int slot, int state, int letter) {
        int length = print(slot, state, letter);
        return length < 0 ? "error " + length : shownBefore();
    }

    String shownBefore() {
        StringBuilder text = new StringBuilder();
        int sign = printed(0);
        for (int i = 1; sign != NONE; i++) {
            text.append((char) sign);
            sign = printed(i);
        }
        return text.toString();
    }

    void word(String letters) {
        clearWord();
        for (int i = 0; i < letters.length(); i++) {
            push(letters.charAt(i) - '0');
        }
    }

    String foundWord() {
        StringBuilder text = new StringBuilder();
        int letter = foundLetter(0);
        for (int i = 1; letter != NONE; i++) {
            text.append(letter);
            letter = foundLetter(i);
        }
        return text.toString();
    }

    int create(int slot, int states, int letters) {
        return next().create(slot, states, letters);
    }

    int setFinal(int slot, int state, int isFinal) {
        return next().setFinal(slot, state, isFinal);
    }

    int setWeight(int slot, int letter, int weight) {
        return next().setWeight(slot, letter, weight);
    }

    int append(int code, int count) {
        return next().append(code, count);
    }

    int setInitial(int slot) {
        return next().setInitial(slot);
    }

    int setTransition(int slot, int state, int letter) {
        return next().setTransition(slot, state, letter);
    }

    int property(int slot, int what) {
        return next().property(slot, what);
    }

    int print(int slot, int state, int letter) {
        return next().print(slot, state, letter);
    }

    int printed(int index) {
        return next().printed(index);
    }

    int isSatisfied(int slot, int state, int letter, int set) {
        return next().isSatisfied(slot, state, letter, set);
    }

    int model(int slot, int state, int letter, int position) {
        return next().model(slot, state, letter, position);
    }

    int push(int letter) {
        return next().push(letter);
    }

    int clearWord() {
        return next().clearWord();
    }

    int acceptingStates(int slot, int start) {
        return next().acceptingStates(slot, start);
    }

    int accepts(int slot) {
        return next().accepts(slot);
    }

    int rank(int slot, int start, int state) {
        return next().rank(slot, start, state);
    }

    int strategy(int slot, int start, int state) {
        return next().strategy(slot, start, state);
    }

    int reverseStep(int slot, int letter, int set) {
        return next().reverseStep(slot, letter, set);
    }

    int reverseStates(int slot) {
        return next().reverseStates(slot);
    }

    int reverseClasses(int slot) {
        return next().reverseClasses(slot);
    }

    int existentialStates(int slot) {
        return next().existentialStates(slot);
    }

    int existentialSets(int slot, int accepting) {
        return next().existentialSets(slot, accepting);
    }

    int relevantStates(int slot) {
        return next().relevantStates(slot);
    }

    int findCheapest(int slot) {
        return next().findCheapest(slot);
    }

    int findDifference(int one, int other) {
        return next().findDifference(one, other);
    }

    int foundLetter(int index) {
        return next().foundLetter(index);
    }

    int foundCost() {
        return next().foundCost();
    }

    int isContained(int one, int other) {
        return next().isContained(one, other);
    }

    long countWords(int slot, int length) {
        return next().countWords(slot, length);
    }

    int dualize(int slot, int target) {
        return next().dualize(slot, target);
    }

    int combine(int one, int other, int target, int operation) {
        return next().combine(one, other, target, operation);
    }

    int save() {
        return next().save();
    }

    int restore() {
        return next().restore();
    }
}
