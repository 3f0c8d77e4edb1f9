import java.util.function.Consumer;

/**
 * Calls that are to be refused, and that nothing has changed after them: the same calls are played on two benches,
 * on one of them with the refused call too, and then all that can be asked is asked of both.
 */
final class Refused {
    private static final int PARTS = 7;
    /** The text while the refused call is made. */
    static final String TEXT = "1|";

    interface Call {
        long on(Bench bench);
    }

    private Refused() {
    }

    /** Three automata, a snapshot of other ones, a word, a found word with a cost and a printed text; no text. */
    static Bench furnished() {
        Bench bench = new Bench();
        bench.create(0, 3, 2);
        bench.initial(0, "0&1|2");
        bench.move(0, 0, 0, "1|2");
        bench.move(0, 1, 1, "2&0");
        bench.move(0, 2, 0, "0");
        bench.finals(0, 1);
        bench.setWeight(0, 0, 3);
        bench.create(1, 6, 3);
        bench.initial(1, "5");
        bench.move(1, 5, 2, "4|0");
        bench.move(1, 0, 0, "t");
        bench.finals(1, 0, 5);
        bench.setWeight(1, 2, 9);
        bench.create(2, 2, 2);
        bench.initial(2, "1");
        bench.move(2, 1, 0, "1&0");
        bench.move(2, 1, 1, "0");
        bench.finals(2, 0);
        bench.setWeight(2, 1, 5);
        bench.save();
        bench.setFinal(0, 2, 1);
        bench.move(0, 2, 0, "2|0");
        bench.setWeight(2, 1, 7);
        bench.finals(1, 3);
        bench.findCheapest(2);
        bench.print(0, -1, 0);
        bench.word("01");
        return bench;
    }

    static void due(long code, Call call) {
        due(code, bench -> { }, call);
    }

    /** Before the refused call come the calls that make it one, which both benches get. */
    static void due(long code, Consumer<Bench> before, Call call) {
        due(code, before, bench -> bench.type(TEXT), bench -> bench.type(TEXT), call);
    }

    /** For setInitial and setTransition: the bench without the call has no text. */
    static void dueWithText(long code, String text, Call call) {
        due(code, bench -> { }, bench -> { }, bench -> bench.type(text), call);
    }

    private static void due(long code, Consumer<Bench> before, Consumer<Bench> without, Consumer<Bench> with,
            Call call) {
        for (int part = 0; part < PARTS; part++) {
            Bench one = furnished();
            before.accept(one);
            without.accept(one);
            Bench other = furnished();
            before.accept(other);
            with.accept(other);
            Due.is("refused call", code, call.on(other));
            Due.is("part " + part + " after a refused call", seen(one, part), seen(other, part));
        }
    }

    /** That a call, whatever it answers, leaves all as it was. */
    static void changesNothing(Consumer<Bench> before, Call call) {
        Bench asked = furnished();
        before.accept(asked);
        asked.type(TEXT);
        due(call.on(asked), before, call);
    }

    /** In parts, because an object is good for 512 calls only and some questions change it. */
    private static String seen(Bench bench, int part) {
        if (part == 0) {
            return seenAround(bench);
        }
        StringBuilder all = new StringBuilder();
        if (part > 3) {
            all.append(bench.restore()).append(' ');
        }
        return all.append(seenInSlot(bench, (part - 1) % 3)).toString();
    }

    private static String seenAround(Bench bench) {
        StringBuilder all = new StringBuilder();
        all.append("found ").append(bench.foundWord()).append(" cost ").append(bench.foundCost());
        all.append(" printed ").append(bench.shownBefore());
        all.append(" text ").append(bench.append('0', 1));
        all.append(' ').append(bench.setInitial(1)).append(' ').append(bench.shown(1, -1, 0));
        // With these formulas a suffix is accepted from the one state that bears its first letter's number.
        bench.create(0, 3, 3);
        for (int letter = 0; letter < 3; letter++) {
            bench.move(0, letter, letter, "t");
        }
        all.append(" word ");
        int states = bench.acceptingStates(0, 0);
        for (int start = 1; states >= 0; start++) {
            all.append(states);
            states = bench.acceptingStates(0, start);
        }
        return all.toString();
    }

    private static String seenInSlot(Bench bench, int slot) {
        StringBuilder all = new StringBuilder();
        for (int what = 0; what < 6; what++) {
            all.append(bench.property(slot, what)).append(' ');
        }
        int states = bench.property(slot, 0);
        int letters = bench.property(slot, 1);
        all.append(bench.shown(slot, -1, 0));
        for (int state = 0; state < states; state++) {
            for (int letter = 0; letter < letters; letter++) {
                all.append(' ').append(bench.shown(slot, state, letter));
            }
        }
        return all.append(' ').append(bench.relevantStates(slot)).append(' ').append(bench.reverseStates(slot))
            .append(' ').append(bench.countWords(slot, 5)).toString();
    }
}
