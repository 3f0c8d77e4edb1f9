import java.io.IOException;
import java.lang.management.ManagementFactory;
import java.lang.reflect.Constructor;
import java.lang.reflect.Field;
import java.lang.reflect.Method;
import java.lang.reflect.Modifier;
import java.nio.file.Files;
import java.nio.file.Path;
import java.util.List;
import java.util.Set;
import java.util.TreeSet;
import java.util.regex.Matcher;
import java.util.regex.Pattern;

/** The face of the class as it is compiled, and the objects that its calls make; SourceRulesTest reads its source. */
public final class LanguageTest {
    private static final String FACE = "create(int,int,int)int setFinal(int,int,int)int setWeight(int,int,int)int "
        + "append(int,int)int setInitial(int)int setTransition(int,int,int)int property(int,int)int "
        + "print(int,int,int)int printed(int)int isSatisfied(int,int,int,int)int model(int,int,int,int)int "
        + "push(int)int clearWord()int acceptingStates(int,int)int accepts(int)int rank(int,int,int)int "
        + "strategy(int,int,int)int reverseStep(int,int,int)int reverseStates(int)int reverseClasses(int)int "
        + "existentialStates(int)int existentialSets(int,int)int relevantStates(int)int findCheapest(int)int "
        + "findDifference(int,int)int foundLetter(int)int foundCost()int isContained(int,int)int "
        + "countWords(int,int)long dualize(int,int)int combine(int,int,int,int)int save()int restore()int";
    private static final Path DOCUMENT = Path.of("../shared/DOC.md");
    private static final Pattern METHOD = Pattern.compile(" {4}public (int|long) (\\w+)(\\(.*\\));");
    private static final Pattern CONSTANT = Pattern.compile(" {4}public static final int (\\w+) = (-?\\d+);");
    private static final int PUBLIC_CONSTANT = Modifier.PUBLIC | Modifier.STATIC | Modifier.FINAL;

    private LanguageTest() {
    }

    public static void main(String[] args) throws IOException, ReflectiveOperationException {
        lookAtFace();
        lookAtDocument();
        countObjects();
        Due.end();
    }

    private static void lookAtFace() {
        Class<?> type = AlternatingAutomata.class;
        Due.is("public and final", Modifier.PUBLIC | Modifier.FINAL, type.getModifiers());
        Set<String> due = new TreeSet<>(List.of(FACE.split(" ")));
        Set<String> got = new TreeSet<>();
        for (Method method : type.getDeclaredMethods()) {
            if (Modifier.isPrivate(method.getModifiers())) {
                continue;
            }
            StringBuilder name = new StringBuilder(method.getName()).append('(');
            for (Class<?> parameter : method.getParameterTypes()) {
                name.append(name.charAt(name.length() - 1) == '(' ? "" : ",").append(parameter.getName());
            }
            got.add(name.append(')').append(method.getReturnType().getName()).toString());
            Due.is(method + " is public and not static", Modifier.PUBLIC, method.getModifiers());
        }
        Due.is("methods", due.toString(), got.toString());
        Constructor<?>[] constructors = type.getDeclaredConstructors();
        Due.is("constructors", 1, constructors.length);
        Due.is("constructor without parameters", 0, constructors[0].getParameterCount());
        Set<String> constants = new TreeSet<>();
        for (Field field : type.getDeclaredFields()) {
            if (!Modifier.isPrivate(field.getModifiers())) {
                constants.add(field.getName());
            }
        }
        Due.is("constants", "[BAD_ARGUMENT, FULL, MISMATCH, NONE, NOTHING]", constants.toString());
    }

    /** The document's public face, if the document is here: the same methods, and the constants with their values. */
    private static void lookAtDocument() throws IOException, ReflectiveOperationException {
        if (!Files.exists(DOCUMENT)) {
            System.out.println("the document was not found: its face is not compared");
            return;
        }
        Set<String> methods = new TreeSet<>();
        for (String line : Files.readString(DOCUMENT).replaceAll("(?s).*```java\n(.*?)```.*", "$1").split("\n")) {
            Matcher method = METHOD.matcher(line);
            Matcher constant = CONSTANT.matcher(line);
            if (method.matches()) {
                methods.add(method.group(2) + method.group(3).replaceAll(" \\w+(?=[,)])", "").replace(" ", "") + method.group(1));
            } else if (constant.matches()) {
                Field field = AlternatingAutomata.class.getField(constant.group(1));
                Due.is(line.trim(), Long.parseLong(constant.group(2)), field.getInt(null));
                Due.is(line.trim(), PUBLIC_CONSTANT, field.getModifiers());
            } else {
                Due.is(line + " is understood", 1, line.matches("public final class .*|    public \\w+\\(\\);|}") ? 1 : 0);
            }
        }
        Due.is("methods of the document", new TreeSet<>(List.of(FACE.split(" "))).toString(), methods.toString());
    }

    private static void countObjects() {
        com.sun.management.ThreadMXBean threads =
            (com.sun.management.ThreadMXBean) ManagementFactory.getThreadMXBean();
        callAll(new AlternatingAutomata(), 10);
        long id = Thread.currentThread().getId();
        long atFirst = threads.getThreadAllocatedBytes(id);
        AlternatingAutomata x = new AlternatingAutomata();
        long made = threads.getThreadAllocatedBytes(id);
        callAll(x, 100);
        long called = threads.getThreadAllocatedBytes(id);
        System.out.println((made - atFirst) + " bytes for an object, " + (called - made) + " for its calls");
        Due.is("an object is small", 1, made - atFirst < 100000 ? 1 : 0);
        Due.is("calls make no objects", 1, called - made < 5000 ? 1 : 0);
    }

    private static void callAll(AlternatingAutomata x, int times) {
        for (int i = 0; i < times; i++) {
            x.create(0, 3, 2);
            x.append('0', 1);
            x.append('|', 1);
            x.append('1', 1);
            x.setTransition(0, i % 3, i % 2);
            x.append('1', 1);
            x.setInitial(0);
            x.setFinal(0, i % 3, 1);
            x.setWeight(0, 1, 2);
            x.property(0, i % 6);
            x.print(0, i % 3, i % 2);
            x.printed(i % 4);
            x.isSatisfied(0, -1, 0, i % 8);
            x.model(0, 0, 0, i % 3 - 1);
            x.push(i % 2);
            x.acceptingStates(0, 0);
            x.accepts(0);
            x.rank(0, 0, 0);
            x.strategy(0, 0, 0);
            x.reverseStep(0, 0, 3);
            x.reverseStates(0);
            x.reverseClasses(0);
            x.existentialStates(0);
            x.existentialSets(0, i % 2);
            x.relevantStates(0);
            x.findCheapest(0);
            x.dualize(0, 1);
            x.findDifference(0, 1);
            x.foundLetter(0);
            x.foundCost();
            x.isContained(0, 1);
            x.countWords(0, 20);
            x.combine(0, 1, 2, i % 2);
            x.save();
            x.restore();
            x.clearWord();
        }
    }
}
