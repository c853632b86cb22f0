import java.lang.reflect.Array;
import java.lang.reflect.Field;
import java.lang.reflect.Method;
import java.lang.reflect.Modifier;
import java.nio.file.Files;
import java.nio.file.Path;
import java.util.ArrayDeque;
import java.util.Collections;
import java.util.Deque;
import java.util.IdentityHashMap;
import java.util.List;
import java.util.Set;
import java.util.TreeSet;
import java.util.regex.Matcher;
import java.util.regex.Pattern;

/** The rules of LANGUAGE.md that can be looked at in the source, and the room that an object takes. */
public final class FormTest {
    private static final int MOST_LINES = 60;
    private static final int MOST_CLASSES = 12;
    private static final int MOST_FIELDS = 20;
    private static final int MOST_PARAMETERS = 7;

    public static void main(String[] args) throws Exception {
        String source = Files.readString(Path.of("src/main/java/RightKeys.java"));
        signs(source);
        words(source);
        library(source);
        objectsInConstructorsAlone(source);
        methodLengths(source);
        classes();
        room();
        Calls.end();
    }

    private static void signs(String source) {
        Calls.sentence("4: constants, whose signs are 1 to 127");
        Calls.due("signs above 127", source.chars().anyMatch(sign -> sign > 127), false);
    }

    private static void words(String source) {
        Calls.sentence("6: No throw, try, catch ..; 2: no lambda, no method reference");
        for (String word : new String[] {"throw", "throws", "try", "catch", "synchronized", "assert", "package", "native", "->", "::"}) {
            boolean letters = Character.isLetter(word.charAt(0));
            String pattern = letters ? "(?s).*\\b" + word + "\\b.*" : "(?s).*" + word + ".*";
            Calls.due("the source has " + word, source.matches(pattern), false);
        }
        Calls.sentence("10: joining texts by StringBuilder (not by +)");
        Calls.due("a text joined by +", source.matches("(?s).*(\"\\s*\\+|\\+\\s*\").*"), false);
    }

    private static void library(String source) {
        Calls.sentence("4: The library: only what stands here");
        Set<String> allowed = Set.of("Integer.bitCount", "Math.abs", "Math.max", "Math.min", "Arrays.fill", "System.arraycopy");
        Matcher used = Pattern.compile("\\b(Integer|Long|Math|Arrays|System|String|Character|Object|List|Collections)\\.(\\w+)").matcher(source);
        while (used.find()) {
            Calls.due(used.group() + " is allowed", allowed.contains(used.group()), true);
        }
        TreeSet<String> imports = new TreeSet<>();
        Matcher imported = Pattern.compile("(?m)^import (.*);").matcher(source);
        while (imported.find()) {
            imports.add(imported.group(1));
        }
        Calls.due("imports " + imports, imports.equals(Set.of("java.util.Arrays")), true);
    }

    /** A field's initialiser is run by the constructor; RightKeys() fills its own two rows. */
    private static void objectsInConstructorsAlone(String source) {
        Calls.sentence("12: What a run makes is counted: keep it small");
        for (String line : source.split("\n")) {
            if (line.matches(".*\\bnew\\b.*") && !line.matches("\\s*(/?\\*|//).*")) {
                boolean field = line.matches("\\s*(private )?(final )?[\\w\\[\\]]+ \\w+ = new .*;") && line.matches(" {4}( {4})?\\S.*");
                boolean row = line.matches("\\s*(past|slots)\\[i\\] = new Ring\\(text\\);");
                Calls.due("made by a constructor: " + line.trim(), field || row, true);
            }
        }
    }

    private static void methodLengths(String source) {
        Calls.sentence("11: Methods stay short (some sixty lines)");
        String head = null;
        int lines = 0;
        for (String line : source.split("\n")) {
            if (head == null && line.matches(" {4}( {4})?\\S.*\\) \\{")) {
                head = line;
                lines = 0;
            }
            lines++;
            if (head != null && line.equals(head.substring(0, head.indexOf(head.trim())) + "}")) {
                Calls.due("lines of " + head.trim() + " " + lines, lines <= MOST_LINES, true);
                head = null;
            }
        }
        Calls.due("each method has its end", head == null, true);
    }

    private static void classes() {
        Calls.sentence("11: at most seven parameters, twelve classes, twenty fields beside constants");
        Class<?>[] inside = RightKeys.class.getDeclaredClasses();
        Calls.due("classes " + inside.length, 1 + inside.length <= MOST_CLASSES, true);
        looked(RightKeys.class);
        for (Class<?> one : inside) {
            looked(one);
            Calls.due(one + " has classes inside", one.getDeclaredClasses().length, 0);
        }
    }

    private static void looked(Class<?> one) {
        int fields = 0;
        for (Field field : one.getDeclaredFields()) {
            fields += Modifier.isStatic(field.getModifiers()) ? 0 : 1;
            if (Modifier.isStatic(field.getModifiers())) {
                boolean plain = List.of(int.class, long.class, boolean.class, char.class, String.class).contains(field.getType());
                Calls.due(field + " is a constant", plain && Modifier.isFinal(field.getModifiers()), true);
            }
        }
        Calls.due("fields of " + one + " " + fields, fields <= MOST_FIELDS, true);
        for (Method method : one.getDeclaredMethods()) {
            Calls.due(method + " has too many parameters", method.getParameterCount() > MOST_PARAMETERS, false);
        }
    }

    private static void room() throws Exception {
        Calls.sentence("some 600,000 objects and arrays, 7.3 million fields and elements in all");
        RightKeys keys = new RightKeys();
        int[] before = sizeOf(keys);
        Calls.due("objects and arrays of a new object: " + before[0], before[0] <= 600, true);
        Calls.due("fields and elements of a new object: " + before[1], before[1] <= 12000, true);
        Calls.feed(keys, Calls.houses(8, "8 17 3") + "spare a b;both c;late=50;lets=if temper<waited then 1 else 0;");
        Calls.due("read", keys.read(), 0);
        for (int i = 0; i < 60; i++) {
            keys.hours(5);
            keys.keep(i % 8, true);
            keys.hold(i % 3);
            keys.tell(i % 8, true);
            keys.stay(0);
            keys.shift(0, 0);
            keys.ask(0);
        }
        int[] after = sizeOf(keys);
        Calls.due("objects and arrays behind many calls", after[0], before[0]);
        Calls.due("fields and elements behind many calls", after[1], before[1]);
    }

    /** How many objects and arrays hang on one, and how many fields and elements these have. */
    private static int[] sizeOf(Object root) throws Exception {
        Set<Object> seen = Collections.newSetFromMap(new IdentityHashMap<>());
        Deque<Object> open = new ArrayDeque<>();
        int[] size = new int[2];
        meet(root, seen, open);
        while (!open.isEmpty()) {
            Object one = open.pop();
            size[0]++;
            if (one.getClass().isArray()) {
                size[1] += Array.getLength(one);
                if (one instanceof Object[] row) {
                    for (Object part : row) {
                        meet(part, seen, open);
                    }
                }
            } else {
                for (Field field : one.getClass().getDeclaredFields()) {
                    if (!Modifier.isStatic(field.getModifiers())) {
                        size[1]++;
                        field.setAccessible(true);
                        if (!field.getType().isPrimitive()) {
                            meet(field.get(one), seen, open);
                        }
                    }
                }
            }
        }
        return size;
    }

    private static void meet(Object one, Set<Object> seen, Deque<Object> open) {
        if (one != null && seen.add(one)) {
            open.push(one);
        }
    }
}
