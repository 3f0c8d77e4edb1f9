import java.lang.reflect.Method;
import java.lang.reflect.Modifier;
import java.util.ArrayList;
import java.util.Arrays;
import java.util.List;
import java.util.function.Consumer;

/** The document's sentences about errors and about the number of calls, for all methods at once. */
public final class ErrorsTest {
    private static final int NONE = -1;
    private static final int BAD = -2;
    private static final int FULL = -3;
    private static final int MISMATCH = -4;
    private static final int MIN = Integer.MIN_VALUE;
    private static final int MAX = Integer.MAX_VALUE;
    private static final int[] FEW_VALUES = {MIN, -2, -1, 0, 1, 2, 3, 8, MAX};
    private static final int[] MANY_VALUES = {MIN, -101, -2, -1, 0, 1, 2, 3, 5, 6, 7, 8, 9, 10, 12, 13, 20, 21, 58, 59, 60,
        61, 63, 64, 127, 128, MAX};
    private static final int AT_ONCE = 100;
    private static final String A_FORMULA = "0|1";
    private static final String TOO_LARGE = "0&".repeat(20) + "0";

    private ErrorsTest() {
    }

    public static void main(String[] args) throws ReflectiveOperationException {
        Sentences.runAll(ErrorsTest.class);
    }

    private static boolean isError(String name, long answer) {
        return answer < NONE || name.equals("countWords") && answer == NONE;
    }

    private static boolean takesText(String name) {
        return name.equals("setInitial") || name.equals("setTransition");
    }

    private static List<Method> methodsOfTheFace() throws ReflectiveOperationException {
        List<Method> methods = new ArrayList<>();
        for (Method method : AlternatingAutomata.class.getDeclaredMethods()) {
            if (Modifier.isPublic(method.getModifiers())) {
                Method same = Bench.class.getDeclaredMethod(method.getName(), method.getParameterTypes());
                same.setAccessible(true);
                methods.add(same);
            }
        }
        methods.sort((one, other) -> one.getName().compareTo(other.getName()));
        return methods;
    }

    /** All rows of arguments out of values around the bounds of the document. */
    private static List<Object[]> argumentsFor(int count) {
        int[] values = count > 2 ? FEW_VALUES : MANY_VALUES;
        List<Object[]> rows = new ArrayList<>();
        rows.add(new Object[0]);
        for (int i = 0; i < count; i++) {
            List<Object[]> longer = new ArrayList<>();
            for (Object[] row : rows) {
                for (int value : values) {
                    Object[] next = Arrays.copyOf(row, row.length + 1);
                    next[row.length] = value;
                    longer.add(next);
                }
            }
            rows = longer;
        }
        return rows;
    }

    private static long call(Bench bench, Method method, Object[] arguments) {
        try {
            return ((Number) method.invoke(bench, arguments)).longValue();
        } catch (ReflectiveOperationException e) {
            Due.fail(method.getName() + Arrays.toString(arguments) + " threw " + e.getCause());
            return 0;
        }
    }

    private static void refuseAll(Method method, List<Object[]> rows) {
        for (int from = 0; from < rows.size(); from += AT_ONCE) {
            List<Object[]> some = rows.subList(from, Math.min(rows.size(), from + AT_ONCE));
            Refused.Call calls = bench -> {
                for (Object[] row : some) {
                    long answer = call(bench, method, row);
                    Due.is(method.getName() + Arrays.toString(row) + " is an error", 1,
                        isError(method.getName(), answer) ? 1 : 0);
                }
                return BAD;
            };
            if (takesText(method.getName())) {
                Refused.dueWithText(BAD, A_FORMULA, calls);
            } else {
                Refused.due(BAD, calls);
            }
        }
    }

    @Says(promise = 0, text = "A call that returns an error code changes nothing, except that setInitial and "
        + "setTransition "
        + "empty the text.")
    static void errorsChangeNothing() throws ReflectiveOperationException {
        int count = 0;
        for (Method method : methodsOfTheFace()) {
            List<Object[]> refused = new ArrayList<>();
            for (Object[] row : argumentsFor(method.getParameterCount())) {
                Bench bench = Refused.furnished();
                bench.type(takesText(method.getName()) ? A_FORMULA : Refused.TEXT);
                if (isError(method.getName(), call(bench, method, row))) {
                    refused.add(row);
                }
            }
            refuseAll(method, refused);
            count += refused.size();
        }
        System.out.println(count + " refused calls");
    }

    @Says(promise = 0, text = "If several errors apply, the one that is listed first at the method is returned.")
    static void firstErrorFirst() {
        Consumer<Bench> fullText = bench -> bench.append('0', 58);
        Refused.due(BAD, fullText, bench -> bench.append(128, 1));
        Refused.due(BAD, fullText, bench -> bench.append('0', 61));
        Refused.due(FULL, fullText, bench -> bench.append('0', 60));
        Consumer<Bench> fullWord = bench -> bench.word("012012012012");
        Refused.due(BAD, fullWord, bench -> bench.push(3));
        Refused.due(BAD, fullWord, bench -> bench.push(-1));
        Refused.due(FULL, fullWord, bench -> bench.push(2));
        Refused.due(BAD, bench -> bench.property(3, 5));
        Refused.due(BAD, bench -> bench.model(3, -1, 0, MAX));
        Refused.due(BAD, bench -> bench.model(0, -2, 0, MAX));
    }

    @Says(promise = 6, text = "FULL if the formula would have more than 40 nodes.")
    static void initialErrorsInOrder() {
        Refused.dueWithText(BAD, "0&", bench -> bench.setInitial(3));
        Refused.dueWithText(BAD, TOO_LARGE, bench -> bench.setInitial(-1));
        Refused.dueWithText(BAD, TOO_LARGE + "&", bench -> bench.setInitial(3));
        Refused.dueWithText(-100 - 42, TOO_LARGE + "&", bench -> bench.setInitial(0));
        Refused.dueWithText(-100 - 41, TOO_LARGE + ")", bench -> bench.setInitial(0));
        Refused.dueWithText(-100 - 42, TOO_LARGE + "&3", bench -> bench.setInitial(0));
        Refused.dueWithText(FULL, TOO_LARGE + "&2", bench -> bench.setInitial(0));
    }

    @Says(promise = 7, text = "FULL if the formula would have more than 40 nodes.")
    static void transitionErrorsInOrder() {
        Refused.dueWithText(BAD, "0&", bench -> bench.setTransition(3, 0, 0));
        Refused.dueWithText(BAD, "0&", bench -> bench.setTransition(0, 3, 0));
        Refused.dueWithText(BAD, "0&", bench -> bench.setTransition(0, 0, 2));
        Refused.dueWithText(BAD, TOO_LARGE, bench -> bench.setTransition(0, -1, 0));
        Refused.dueWithText(-100 - 42, TOO_LARGE + "&", bench -> bench.setTransition(0, 0, 0));
        Refused.dueWithText(-100 - 42, TOO_LARGE + "&3", bench -> bench.setTransition(0, 0, 0));
        Refused.dueWithText(FULL, TOO_LARGE + "&2", bench -> bench.setTransition(0, 0, 0));
    }

    /** A word with a letter that slots 0 and 2 do not have. */
    private static void mismatched(int due, Refused.Call call) {
        Refused.due(due, bench -> bench.word("020"), call);
    }

    @Says(promise = 15, text = "BAD_ARGUMENT if there is no such slot or start is out of range;")
    static void acceptingStatesErrorsInOrder() {
        mismatched(BAD, bench -> bench.acceptingStates(3, 0));
        mismatched(BAD, bench -> bench.acceptingStates(0, 4));
        mismatched(BAD, bench -> bench.acceptingStates(0, -1));
        mismatched(MISMATCH, bench -> bench.acceptingStates(0, 3));
    }

    @Says(promise = 16, text = "BAD_ARGUMENT if there is no such slot;")
    static void acceptsErrorsInOrder() {
        mismatched(BAD, bench -> bench.accepts(3));
        mismatched(MISMATCH, bench -> bench.accepts(2));
    }

    @Says(promise = 17, text = "BAD_ARGUMENT if there is no such slot or state or start is out of range;")
    static void rankErrorsInOrder() {
        mismatched(BAD, bench -> bench.rank(3, 0, 0));
        mismatched(BAD, bench -> bench.rank(0, 0, 3));
        mismatched(BAD, bench -> bench.rank(0, 4, 0));
        mismatched(MISMATCH, bench -> bench.rank(0, 3, 2));
    }

    @Says(promise = 18, text = "NONE if the automaton cannot force a win from (start, state).")
    static void strategyErrorsInOrder() {
        mismatched(BAD, bench -> bench.strategy(3, 0, 0));
        mismatched(BAD, bench -> bench.strategy(0, 0, 3));
        mismatched(BAD, bench -> bench.strategy(0, 3, 0));
        mismatched(MISMATCH, bench -> bench.strategy(0, 2, 0));
        // All states of a new automaton are lost, and the word 020 has a letter that it does not have.
        Consumer<Bench> lost = bench -> {
            bench.create(0, 3, 2);
            bench.word("020");
        };
        Refused.due(MISMATCH, lost, bench -> bench.strategy(0, 0, 0));
        Consumer<Bench> lostOnly = bench -> {
            bench.create(0, 3, 2);
            bench.word("010");
        };
        Refused.due(BAD, lostOnly, bench -> bench.strategy(0, 3, 0));
        Refused.due(NONE, lostOnly, bench -> bench.strategy(0, 2, 0));
    }

    @Says(promise = 23, text = "BAD_ARGUMENT if there is no such slot or accepting is not 0 or 1;")
    static void existentialSetsErrorsInOrder() {
        mismatched(BAD, bench -> bench.existentialSets(3, 0));
        mismatched(BAD, bench -> bench.existentialSets(0, 2));
        mismatched(MISMATCH, bench -> bench.existentialSets(0, 1));
    }

    @Says(promise = 32, text = "FULL if there would be more than 6 states or more than 40 nodes in the initial "
        + "formula.")
    static void combineErrorsInOrder() {
        // Slot 1 has six states and three letters, slots 0 and 2 have two letters.
        Refused.due(BAD, bench -> bench.combine(0, 1, 3, 0));
        Refused.due(BAD, bench -> bench.combine(0, 1, 2, 2));
        Refused.due(MISMATCH, bench -> bench.combine(0, 1, 2, 0));
        Refused.due(BAD, bench -> bench.combine(1, 1, 3, 0));
        Refused.due(BAD, bench -> bench.combine(1, 1, 1, -1));
        Refused.due(FULL, bench -> bench.combine(1, 1, 1, 0));
        Consumer<Bench> manyNodes = bench -> {
            bench.initial(0, "0&".repeat(19) + "0");
            bench.create(2, 1, 3);
        };
        Refused.due(MISMATCH, manyNodes, bench -> bench.combine(0, 2, 1, 0));
    }

    @Says(promise = 0, text = "NONE is not an error.")
    static void noneIsNoError() {
        // Where nothing is found, the call is made all the same; the document lets everything stay.
        Refused.changesNothing(bench -> bench.create(0, 3, 2), bench -> bench.findCheapest(0));
        Refused.changesNothing(bench -> { }, bench -> bench.findDifference(1, 1));
        Refused.changesNothing(bench -> { }, bench -> bench.property(0, 5));
        Refused.changesNothing(bench -> { }, bench -> bench.printed(60));
        Refused.changesNothing(bench -> { }, bench -> bench.foundLetter(60));
        Refused.changesNothing(bench -> { }, bench -> bench.model(0, -1, 0, 60));
        Refused.changesNothing(bench -> bench.create(0, 3, 2), bench -> bench.strategy(0, 0, 0));
        Due.is("no letter 2", NONE, Refused.furnished().property(0, 5));
    }

    @Says(promise = 0, text = "An object is used for at most 512 calls after it has been made;")
    static void answersUpToTheLastCall() {
        String text = "0&(1|2)&(3|4&5)";
        Bench bench = new Bench();
        bench.create(0, 6, 3);
        bench.initial(0, text);
        while (bench.callsSoFar() < Bench.MOST_CALLS - 24) {
            bench.push(2);
            bench.append('(', 60);
            bench.setInitial(1);
            bench.save();
            bench.dualize(0, 0);
            bench.dualize(0, 0);
            bench.findDifference(0, 1);
            bench.isContained(0, 0);
        }
        bench.clearWord();
        bench.restore();
        bench.append('t', 1);
        bench.setInitial(2);
        bench.push(0);
        bench.save();
        Due.is("cheapest", 0, bench.findCheapest(2));
        while (bench.callsSoFar() < Bench.MOST_CALLS - 1) {
            bench.countWords(2, 20);
        }
        Due.is("the 512th call", text.length(), bench.print(0, -1, 0));
    }
}
