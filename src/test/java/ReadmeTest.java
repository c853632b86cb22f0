import java.lang.reflect.Method;
import java.nio.file.Files;
import java.nio.file.Path;
import java.util.regex.Matcher;
import java.util.regex.Pattern;

/** The calls that README.md shows are made, and their answers compared with the ones that stand behind them there. */
public final class ReadmeTest {
    private static final Pattern CALL = Pattern.compile("keys\\.(\\w+)\\((.*)\\);\\s+// (-?\\w+):.*");

    public static void main(String[] args) throws Exception {
        String page = Files.readString(Path.of("README.md"));
        calls(page);
        table(page);
        Calls.end();
    }

    private static void calls(String page) throws Exception {
        RightKeys keys = new RightKeys();
        int made = 0;
        for (String line : page.split("\n")) {
            if (line.startsWith("keys.")) {
                Matcher call = CALL.matcher(line);
                Calls.due("can be read: " + line, call.matches(), true);
                String answer = String.valueOf(answer(keys, call.group(1), call.group(2)));
                Calls.due(line + " answered " + answer, answer.equals(call.group(3)), true);
                made++;
            }
        }
        Calls.due("calls are shown", made > 10, true);
    }

    private static Object answer(RightKeys keys, String name, String arguments) throws Exception {
        String[] parts = arguments.isEmpty() ? new String[0] : arguments.split(", ");
        Object[] values = new Object[parts.length];
        for (int i = 0; i < parts.length; i++) {
            values[i] = value(parts[i]);
        }
        for (Method method : RightKeys.class.getDeclaredMethods()) {
            if (method.getName().equals(name)) {
                return method.invoke(keys, values);
            }
        }
        return "no such call";
    }

    private static Object value(String part) {
        if (part.equals("RightKeys.NONE")) {
            return RightKeys.NONE;
        }
        return part.matches("true|false") ? (Object) Boolean.valueOf(part) : (Object) Integer.decode(part);
    }

    /** Each call of the face stands once in the table of what it is for. */
    private static void table(String page) {
        for (Method method : RightKeys.class.getMethods()) {
            if (method.getDeclaringClass() == RightKeys.class) {
                int rows = 0;
                for (String line : page.split("\n")) {
                    rows += line.startsWith("|") && line.contains("`" + method.getName() + "`") ? 1 : 0;
                }
                Calls.due("rows with " + method.getName(), rows, 1);
            }
        }
    }
}
