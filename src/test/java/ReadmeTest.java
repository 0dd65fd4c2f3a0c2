import java.io.IOException;
import java.lang.reflect.Method;
import java.nio.file.Files;
import java.nio.file.Path;
import java.util.regex.Matcher;
import java.util.regex.Pattern;

// Makes the calls of README.md's examples; the comment of each begins with the answer that is due.
public final class ReadmeTest {
    private static final Pattern MAKE = Pattern.compile(".* = new SerializableStore\\((-?\\d+)\\);.*");
    private static final Pattern CALL = Pattern.compile("store\\.(\\w+)\\(([^)]*)\\);(.*)");
    private static final Pattern ANSWER = Pattern.compile(" +// (-?\\w+)(:.*)?");
    private static final int LEAST_CALLS = 25;

    private static SerializableStore store;
    private static int calls = 0;
    private static int wrong = 0;

    private static void must(boolean holds, String line, String what) {
        if (!holds) {
            wrong++;
            System.out.println("README.md, " + line + ": " + what);
        }
    }

    private static Object argument(String text, Class<?> type) {
        if (type == boolean.class) {
            return Boolean.valueOf(text);
        }
        return Integer.valueOf(text);
    }

    private static String answerOf(String name, String[] texts) throws ReflectiveOperationException {
        for (Method method : SerializableStore.class.getMethods()) {
            if (method.getName().equals(name) && method.getParameterCount() == texts.length) {
                Object[] arguments = new Object[texts.length];
                for (int i = 0; i < texts.length; i++) {
                    arguments[i] = argument(texts[i], method.getParameterTypes()[i]);
                }
                return method.invoke(store, arguments).toString();
            }
        }
        return "no such call";
    }

    private static String valueOf(String answer) throws ReflectiveOperationException {
        boolean isConstant = answer.equals(answer.toUpperCase()) && Character.isLetter(answer.charAt(0));
        return isConstant ? SerializableStore.class.getField(answer).get(null).toString() : answer;
    }

    private static void look(String line) throws ReflectiveOperationException {
        Matcher make = MAKE.matcher(line);
        Matcher call = CALL.matcher(line);
        if (make.matches()) {
            store = new SerializableStore(Integer.parseInt(make.group(1)));
        } else if (call.matches()) {
            Matcher due = ANSWER.matcher(call.group(3));
            must(due.matches(), line, "no answer is told");
            if (due.matches()) {
                calls++;
                String[] texts = call.group(2).isEmpty() ? new String[0] : call.group(2).split(", ");
                String got = answerOf(call.group(1), texts);
                must(got.equals(valueOf(due.group(1))), line, "answered " + got);
            }
        }
    }

    public static void main(String[] args) throws IOException, ReflectiveOperationException {
        for (String line : Files.readAllLines(Path.of("README.md"))) {
            look(line);
        }
        must(calls >= LEAST_CALLS, "all lines", "only " + calls + " calls were found");
        System.out.println(wrong == 0 ? "README.md tells the right answers" : wrong + " lines of README.md are wrong");
        if (wrong != 0) {
            System.exit(1);
        }
    }
}
