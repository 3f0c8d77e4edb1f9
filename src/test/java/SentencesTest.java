import java.io.IOException;
import java.lang.reflect.Method;
import java.util.HashSet;
import java.util.List;
import java.util.Set;

/** That the tests quote the document rightly, and that each of its sentences has a test or names no boundary. */
public final class SentencesTest {
    private static final Class<?>[] TESTS = {DescriptionTest.class, EdgesOfPromises1To14Test.class,
        EdgesOfPromises15To24Test.class, EdgesOfPromises25To34Test.class, ErrorsTest.class};

    /** Sentences that say what is meant or done, but no boundary; the range of a slot stands at the errors. */
    private static final Set<String> NAME_NO_BOUNDARY = Set.of(
        "A workbench for alternating finite automata: positive Boolean transition formulas, acceptance as a game with ranks "
            + "and strategies, minimal models, removal of alternation, emptiness with cheapest accepted words, counting, "
            + "complement, union and intersection, and equivalence with shortest differences.",
        "The class is not thread-safe.",
        "what later calls answer is free.",
        "an initial formula;",
        "A formula is true, false, a state, or the conjunction or the disjunction of two formulas, its left and its right part.",
        "The language is the set of all accepted words.",
        "The existential automaton has sets of states as its states.",
        "The reverse automaton has sets of states as its states and is deterministic.",
        "The grammar is:",
        "The constants:",
        "The constructor and the methods follow, a promise each: the signature, then what it does.",
        "- `slot`: the slot",
        "- `state`: the state",
        "- `letter`: the letter",
        "- `one`: the slot of the first automaton",
        "- `other`: the slot of the second automaton",
        "Makes a state final or not.",
        "Sets the weight of a letter.",
        "Appends a character to the text several times.",
        "Returns a property of an automaton.",
        "Returns the property;",
        "Prints a formula.",
        "Returns the character;",
        "Returns whether a set of states satisfies a formula.",
        "Returns 1 or 0;",
        "Returns a minimal model of a formula, or their number.",
        "Returns the model or the number;",
        "Appends a letter to the word.",
        "Returns the set of states from which a suffix of the word is accepted.",
        "Returns the set;",
        "Returns the winner and the rank of the position (start, state) in the game on the word.",
        "Returns the set of states;",
        "Returns the set to which the reverse automaton goes from a set.",
        "Returns the number;",
        "Returns the number of classes;",
        "Returns a letter of the found word.",
        "Returns the letter;",
        "Returns the cost.",
        "Returns whether the language of an automaton is contained in that of another one.",
        "Returns the number of accepted words of a length.",
        "Puts an automaton for the union or the intersection of two languages into a slot.");

    private SentencesTest() {
    }

    public static void main(String[] args) throws IOException {
        List<List<String>> document = Sentences.ofDocument();
        if (document == null) {
            System.out.println("the document was not found: its sentences are not compared");
            return;
        }
        Set<String> quoted = lookAtQuotes(document);
        lookAtSentences(document, quoted);
        Due.end();
    }

    private static Set<String> lookAtQuotes(List<List<String>> document) {
        Set<String> quoted = new HashSet<>();
        for (Class<?> tests : TESTS) {
            for (Method method : Sentences.testsOf(tests)) {
                Says says = method.getAnnotation(Says.class);
                boolean isThere = document.get(says.promise()).contains(says.text());
                Due.is(Sentences.nameOf(says.promise()) + " says \"" + says.text() + "\"", 1, isThere ? 1 : 0);
                quoted.add(says.promise() + " " + says.text());
            }
        }
        return quoted;
    }

    private static void lookAtSentences(List<List<String>> document, Set<String> quoted) {
        for (int promise = 0; promise <= Sentences.PROMISES; promise++) {
            Due.is(Sentences.nameOf(promise) + " is in the document", 0, document.get(promise).isEmpty() ? 1 : 0);
            for (String sentence : document.get(promise)) {
                boolean isHeading = sentence.startsWith("`") || sentence.matches("[A-Z][a-z]+( [a-z]+){0,2}\\.");
                boolean isTested = quoted.contains(promise + " " + sentence);
                boolean isFine = isTested || isHeading || NAME_NO_BOUNDARY.contains(sentence);
                Due.is(Sentences.nameOf(promise) + " \"" + sentence + "\" has a test", 1, isFine ? 1 : 0);
            }
        }
    }
}
