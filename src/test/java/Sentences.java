import java.io.IOException;
import java.lang.reflect.InvocationTargetException;
import java.lang.reflect.Method;
import java.nio.file.Files;
import java.nio.file.Path;
import java.util.ArrayList;
import java.util.Arrays;
import java.util.Comparator;
import java.util.List;

/** Runs the test methods that are for a sentence of the document, and splits the document into its sentences. */
final class Sentences {
    static final int PROMISES = 34;
    private static final Path DOCUMENT = Path.of("../shared/DOC.md");

    private Sentences() {
    }

    static void runAll(Class<?> tests) throws ReflectiveOperationException {
        int count = 0;
        for (Method method : testsOf(tests)) {
            Says says = method.getAnnotation(Says.class);
            Due.about(nameOf(says.promise()) + " \"" + says.text() + "\" " + method.getName());
            runOne(method);
            count++;
        }
        Due.about("");
        System.out.println(count + " sentences tested");
        Due.end();
    }

    private static void runOne(Method method) throws ReflectiveOperationException {
        method.setAccessible(true);
        try {
            method.invoke(null);
        } catch (InvocationTargetException e) {
            e.getCause().printStackTrace(System.out);
            Due.fail("threw " + e.getCause());
        }
    }

    static List<Method> testsOf(Class<?> tests) {
        List<Method> methods = new ArrayList<>();
        for (Method method : tests.getDeclaredMethods()) {
            if (method.isAnnotationPresent(Says.class)) {
                methods.add(method);
            }
        }
        methods.sort(Comparator.comparingInt((Method m) -> m.getAnnotation(Says.class).promise())
            .thenComparing(Method::getName));
        return methods;
    }

    static String nameOf(int promise) {
        return promise == 0 ? "Description" : "Promise " + promise;
    }

    /** At 0 what stands before the promises, and each promise at its number; or null without a document. */
    static List<List<String>> ofDocument() throws IOException {
        if (!Files.exists(DOCUMENT)) {
            return null;
        }
        List<List<String>> result = new ArrayList<>();
        for (int promise = 0; promise <= PROMISES; promise++) {
            result.add(new ArrayList<>());
        }
        for (String part : Files.readString(DOCUMENT).split("(?m)^## ")) {
            String title = part.lines().findFirst().orElse("");
            if (title.equals("Description") || title.equals("What it is")) {
                result.get(0).addAll(sentencesIn(part));
            } else if (title.startsWith("Promise ")) {
                result.get(Integer.parseInt(title.replaceAll("\\D*(\\d+):.*", "$1"))).addAll(sentencesIn(part));
            }
        }
        return result;
    }

    /** A sentence ends with a full stop or a semicolon; each item of a list is one too. */
    private static List<String> sentencesIn(String part) {
        List<String> sentences = new ArrayList<>();
        String body = part.substring(part.indexOf('\n') + 1);
        for (String block : body.split("\n\\s*\n|\n(?=- )")) {
            String line = block.trim().replaceAll("\\s+", " ");
            if (!line.isEmpty()) {
                sentences.addAll(Arrays.asList(line.split("(?<=[.;]) ")));
            }
        }
        return sentences;
    }
}
