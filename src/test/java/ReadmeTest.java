import java.io.IOException;
import java.lang.reflect.Method;
import java.lang.reflect.Modifier;
import java.nio.file.Files;
import java.nio.file.Path;
import java.util.Set;
import java.util.TreeSet;
import java.util.regex.MatchResult;
import java.util.regex.Matcher;
import java.util.regex.Pattern;

/** Plays the lines of code in README.md, and compares what they answer with the numbers behind them. */
public final class ReadmeTest {
    private static final Pattern CODE = Pattern.compile("(?s)```java\n(.*?)```");
    private static final Pattern CALL = Pattern.compile("x\\.(\\w+)\\(((?:(?:'.'|-?\\d+)(?:, )?)*)\\);");
    private static final Pattern ARGUMENT = Pattern.compile("'(.)'|(-?\\d+)");
    private static final Pattern LINE = Pattern.compile("((?:x\\.\\w+\\([^;]*\\); *)+)// (-?\\d+)\\b.*");

    private ReadmeTest() {
    }

    public static void main(String[] args) throws IOException, ReflectiveOperationException {
        Matcher code = CODE.matcher(Files.readString(Path.of("README.md")));
        Due.is("README.md has code", 1, code.find() ? 1 : 0);
        AlternatingAutomata x = new AlternatingAutomata();
        Set<String> played = new TreeSet<>();
        for (String line : code.group(1).split("\n")) {
            boolean isSpoken = line.isEmpty() || line.startsWith("//") || line.startsWith("AlternatingAutomata x = new");
            if (!isSpoken) {
                play(x, line, played);
            }
        }
        Due.is("methods that README.md shows", namesOfFace().toString(), played.toString());
        Due.end();
    }

    private static void play(AlternatingAutomata x, String line, Set<String> played) throws ReflectiveOperationException {
        Matcher parts = LINE.matcher(line);
        if (!parts.matches()) {
            Due.fail("not calls with an answer: " + line);
            return;
        }
        long answer = Long.MIN_VALUE;
        Matcher call = CALL.matcher(parts.group(1));
        int end = 0;
        while (call.find()) {
            Due.is("calls alone in " + line, "", line.substring(end, call.start()).trim());
            end = call.end();
            answer = answerOf(x, call.group(1), call.group(2));
            played.add(call.group(1));
        }
        Due.is(line, Long.parseLong(parts.group(2)), answer);
    }

    private static long answerOf(AlternatingAutomata x, String name, String list) throws ReflectiveOperationException {
        Object[] values = ARGUMENT.matcher(list).results().map(ReadmeTest::valueOf).toArray();
        for (Method method : AlternatingAutomata.class.getDeclaredMethods()) {
            if (method.getName().equals(name) && method.getParameterCount() == values.length) {
                return ((Number) method.invoke(x, values)).longValue();
            }
        }
        Due.fail("no method " + name + " with " + values.length + " arguments");
        return Long.MIN_VALUE;
    }

    private static Integer valueOf(MatchResult argument) {
        String sign = argument.group(1);
        return sign == null ? Integer.parseInt(argument.group(2)) : sign.charAt(0);
    }

    private static Set<String> namesOfFace() {
        Set<String> names = new TreeSet<>();
        for (Method method : AlternatingAutomata.class.getDeclaredMethods()) {
            if (Modifier.isPublic(method.getModifiers())) {
                names.add(method.getName());
            }
        }
        return names;
    }
}
