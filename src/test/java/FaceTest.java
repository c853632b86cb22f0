import java.lang.reflect.Constructor;
import java.lang.reflect.Field;
import java.lang.reflect.Method;
import java.lang.reflect.Modifier;
import java.util.Arrays;
import java.util.TreeSet;

/** The public face, and calls of all kinds in all states, none of which may throw. */
public final class FaceTest {
    private static final String FACE = "int feed(int,int,int,int,int)|int back(int)|int read()|int place()|int house(int,int)|"
        + "int spare(int,int)|int lets(int,int)|boolean keep(int,boolean)|boolean pass(int,int)|boolean change(int,int)|"
        + "int hours(int)|boolean undo()|int openers(int)|int stand(int,int)|int firstStand(int)|int stay(int)|"
        + "int shift(int,int)|int changeBest(int)|int frees(int)|int worst(int,int)|int peak(int,int)|int gain(int)|"
        + "int by(int)|int days(int,int)|int soonest(int,int)|int rents(int)|int shut(int)|int then(int,int,int)|"
        + "int year(int,int)|int tell(int,boolean)|int forget()|int overslept(int,int)|int ask(int)|boolean hold(int)|"
        + "boolean restore(int)|int count(int)";

    public static void main(String[] args) throws Exception {
        face();
        anyCalls();
        Calls.end();
    }

    private static void face() throws Exception {
        TreeSet<String> want = new TreeSet<>(Arrays.asList(FACE.split("\\|")));
        TreeSet<String> got = new TreeSet<>();
        TreeSet<String> names = new TreeSet<>();
        for (Method m : RightKeys.class.getDeclaredMethods()) {
            StringBuilder types = new StringBuilder();
            for (Class<?> type : m.getParameterTypes()) {
                types.append(types.length() > 0 ? "," : "").append(type);
            }
            if (!Modifier.isPrivate(m.getModifiers())) {
                got.add(m.getReturnType() + " " + m.getName() + "(" + types + ")");
                names.add(m.getName());
                Calls.due(m.getName() + " is public alone", m.getModifiers(), Modifier.PUBLIC);
            }
        }
        Calls.due("the face " + got, got.equals(want), true);
        for (Field f : RightKeys.class.getDeclaredFields()) {
            boolean none = f.getName().equals("NONE");
            Calls.due(f + " is not private", Modifier.isPrivate(f.getModifiers()), !none);
        }
        Constructor<?>[] made = RightKeys.class.getDeclaredConstructors();
        Calls.due("constructors", made.length, 1);
        Calls.due("the constructor is public", made[0].getModifiers(), Modifier.PUBLIC);
        for (Class<?> inside : RightKeys.class.getDeclaredClasses()) {
            Calls.due(inside + " is static", Modifier.isStatic(inside.getModifiers()), true);
            for (Method m : inside.getDeclaredMethods()) {
                Calls.due(m + " bears a public name", names.contains(m.getName()), false);
            }
        }
        for (Method m : RightKeys.class.getDeclaredMethods()) {
            if (Modifier.isPrivate(m.getModifiers())) {
                Calls.due(m + " bears a public name", names.contains(m.getName()), false);
            }
        }
    }

    /** Arguments in and out of range, texts good and bad: a machine's exception would end this test. */
    private static void anyCalls() throws Exception {
        java.util.Random random = new java.util.Random(5);
        Method[] methods = RightKeys.class.getMethods();
        Arrays.sort(methods, (a, b) -> a.toString().compareTo(b.toString()));
        String[] pieces = {"house ", "a ", "b ", "3 ", "17 ", "24 ", ";", "spare ", "both ", "lets ", "late ", "= ", "( ", ") ", "+ ",
            "/ ", "if ", "< ", "then ", "else ", "hour ", "?", "house a 8 17 3;", "house b 9 16 5;", "house c 7 18 2;",
            "spare a b;", "lets = temper / (waited - 1);", "late = 50;", "both b;"};
        for (int run = 0; run < 400; run++) {
            RightKeys keys = new RightKeys();
            for (int texts = 0; texts < 3; texts++) {
                StringBuilder text = new StringBuilder();
                int from = random.nextInt(3) == 0 ? 0 : 22;
                for (int i = random.nextInt(12); i >= 0; i--) {
                    text.append(pieces[from + random.nextInt(pieces.length - from)]);
                }
                keys.back(keys.count(9));
                Calls.feed(keys, text.toString());
                keys.read();
                for (int i = 0; i < 120; i++) {
                    call(keys, methods[random.nextInt(methods.length)], random);
                }
            }
        }
    }

    private static void call(RightKeys keys, Method method, java.util.Random random) throws Exception {
        if (method.getDeclaringClass() != RightKeys.class) {
            return;
        }
        Object[] values = new Object[method.getParameterCount()];
        for (int i = 0; i < values.length; i++) {
            int kind = random.nextInt(12);
            int value = kind == 0 ? random.nextInt() : kind == 1 ? random.nextInt(80) - 3 : random.nextInt(6) - 1;
            values[i] = method.getParameterTypes()[i] == int.class ? (Object) value : (Object) (value % 2 == 0);
        }
        Object answer = method.invoke(keys, values);
        Calls.due(method + " answers", answer != null, true);
    }
}
