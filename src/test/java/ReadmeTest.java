import java.io.IOException;
import java.lang.reflect.Field;
import java.lang.reflect.Method;
import java.lang.reflect.Modifier;
import java.nio.file.Files;
import java.nio.file.Path;
import java.util.Arrays;
import java.util.HashMap;
import java.util.List;
import java.util.Map;
import java.util.regex.Matcher;
import java.util.regex.Pattern;

/** README.md: its example is read and carried out, so that it can't tell an answer that is not given. */
public final class ReadmeTest {
    private static final Pattern SYMBOL =
            Pattern.compile("int (\\w+) = ConjunctiveParser\\.TERMINAL_BASE(?: \\+ (\\d+))?; +// .+");
    private static final Pattern OBJECT =
            Pattern.compile("ConjunctiveParser x = new ConjunctiveParser\\((\\d+), (\\d+)\\); +// .+");
    private static final Pattern CALL = Pattern.compile("x\\.(\\w+)\\(([^()]*)\\); +// ([^:]+)(?:: .+)?");

    private final Map<String, Integer> symbols = new HashMap<>();
    private ConjunctiveParser x = null;
    private int calls = 0;

    public static void main(String[] args) throws IOException {
        String text = Files.readString(Path.of("README.md"));
        Checks.sentence("every call of the example answers what is told behind it", () -> example(text));
        Checks.sentence("every public constant is told, with its value", () -> constants(text));
        Checks.sentence("every public method is told", () -> methods(text));
        Checks.sentence("the command that runs the tests is there", () -> command(text));
        Checks.end();
    }

    private static void example(String text) {
        ReadmeTest reader = new ReadmeTest();
        for (String line : exampleLines(text)) {
            if (!line.isEmpty()) {
                reader.carryOut(line);
            }
        }
        Checks.due("the example has calls", reader.calls > 0, true);
    }

    private static List<String> exampleLines(String text) {
        String begin = "```java\n";
        int from = text.indexOf(begin) + begin.length();
        return Arrays.asList(text.substring(from, text.indexOf("```", from)).split("\n"));
    }

    private void carryOut(String line) {
        Matcher symbol = SYMBOL.matcher(line);
        Matcher object = OBJECT.matcher(line);
        Matcher call = CALL.matcher(line);
        if (symbol.matches()) {
            int letter = symbol.group(2) == null ? 0 : Integer.parseInt(symbol.group(2));
            symbols.put(symbol.group(1), ConjunctiveParser.TERMINAL_BASE + letter);
        } else if (object.matches()) {
            x = new ConjunctiveParser(Integer.parseInt(object.group(1)), Integer.parseInt(object.group(2)));
        } else if (call.matches()) {
            calls++;
            dueAnswer(line, call.group(1), arguments(call.group(2)), call.group(3));
        } else {
            Checks.due("a line of the example", line, "a symbol, the object, or a call with its answer");
        }
    }

    private Object[] arguments(String list) {
        return Arrays.stream(list.split(", ")).filter(word -> !word.isEmpty())
                .map(word -> symbols.containsKey(word) ? symbols.get(word) : Integer.valueOf(word)).toArray();
    }

    private void dueAnswer(String line, String name, Object[] arguments, String told) {
        Class<?>[] types = new Class<?>[arguments.length];
        Arrays.fill(types, int.class);
        try {
            Method method = ConjunctiveParser.class.getMethod(name, types);
            Object answer = method.invoke(x, arguments);
            if (method.getReturnType() != void.class) {
                Checks.due(line, answer.toString(), valueOf(told));
            }
        } catch (ReflectiveOperationException wrongCall) {
            throw new IllegalStateException(line, wrongCall);
        }
    }

    private static String valueOf(String told) throws ReflectiveOperationException {
        boolean constant = told.matches("[A-Z_]+");
        return constant ? ConjunctiveParser.class.getField(told).get(null).toString() : told;
    }

    private static void constants(String text) {
        for (Field field : ConjunctiveParser.class.getFields()) {
            try {
                String words = "`" + field.getName() + " = " + field.get(null) + "`";
                Checks.due(words + " is told", text.contains(words), true);
            } catch (IllegalAccessException notPublic) {
                throw new IllegalStateException(notPublic);
            }
        }
    }

    private static void methods(String text) {
        for (Method method : ConjunctiveParser.class.getDeclaredMethods()) {
            if (Modifier.isPublic(method.getModifiers())) {
                String words = "`" + method.getName() + "(";
                Checks.due(words + " is told", text.contains(words), true);
            }
        }
    }

    private static void command(String text) {
        Checks.due(".ci/run is told", text.contains("\n    .ci/run\n"), true);
        Checks.due(".ci/run can be run", Files.isExecutable(Path.of(".ci/run")), true);
    }
}
