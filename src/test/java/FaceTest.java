import java.lang.reflect.Field;
import java.lang.reflect.Method;
import java.lang.reflect.Modifier;
import java.util.Arrays;
import java.util.TreeSet;

/** The class shows just the document's face, and its fields keep to LANGUAGE.md's rules 1, 2, 5 and 10. */
public final class FaceTest {
    private static int wrong = 0;

    private static void due(String what, Object got, Object want) {
        if (!want.equals(got)) {
            wrong++;
            System.out.println(what + " is " + got + ", due is " + want);
        }
    }

    public static void main(String[] args) throws Exception {
        Class<?> c = UnboxPlanner.class;
        due("the class's modifiers", Modifier.toString(c.getModifiers()), "public final");
        due("nested classes", c.getDeclaredClasses().length, 0);
        due("the constructors", Arrays.toString(c.getDeclaredConstructors()), "[public UnboxPlanner(int)]");
        methods(c);
        constants(c);
        fields(c);
        System.out.println(wrong == 0 ? "the face is as due" : wrong + " things are not as due");
        if (wrong != 0) {
            System.exit(1);
        }
    }

    private static void methods(Class<?> c) {
        TreeSet<String> want = new TreeSet<>(Arrays.asList(
            "values()", "cost(int,int,int)", "flow(int,int,int,int)", "cut(int)", "fix(int,int)", "flows()",
            "costOf(int)", "best()", "fewestBoxed()", "mostBoxed()", "settled(int)", "bestWith(int,int)",
            "bestTied(int,int,int)", "saving(int)", "isBest(int)", "settledCount()"));
        TreeSet<String> got = new TreeSet<>();
        TreeSet<String> publicNames = new TreeSet<>();
        for (Method m : c.getDeclaredMethods()) {
            if (!Modifier.isPrivate(m.getModifiers())) {
                String text = m.toString();
                got.add(text.replace("public int UnboxPlanner.", ""));
                publicNames.add(m.getName());
            }
        }
        due("the visible methods", got, want);
        for (Method m : c.getDeclaredMethods()) {
            if (Modifier.isPrivate(m.getModifiers())) {
                due("a private method of a public name, " + m.getName(), publicNames.contains(m.getName()), false);
                due("more than seven parameters, " + m.getName(), m.getParameterCount() > 7, false);
            }
        }
    }

    private static void constants(Class<?> c) throws Exception {
        TreeSet<String> got = new TreeSet<>();
        for (Field f : c.getDeclaredFields()) {
            if (!Modifier.isPrivate(f.getModifiers())) {
                got.add(f + " = " + f.get(null));
            }
        }
        due("the visible constants", got, new TreeSet<>(Arrays.asList(
            "public static final int UnboxPlanner.RAW = 0",
            "public static final int UnboxPlanner.BOXED = 1",
            "public static final int UnboxPlanner.FREE = 2")));
    }

    private static void fields(Class<?> c) {
        int ofObject = 0;
        for (Field f : c.getDeclaredFields()) {
            Class<?> type = f.getType();
            if (Modifier.isStatic(f.getModifiers())) {
                due("a static field that is a constant, " + f.getName(),
                    Modifier.isFinal(f.getModifiers()) && (type == int.class || type == long.class), true);
            } else {
                ofObject++;
                Class<?> inner = type.isArray() ? type.getComponentType() : type;
                due("a field of a whole number or an array of these, " + f.getName(),
                    inner.isPrimitive() && inner != float.class && inner != double.class, true);
            }
        }
        due("more than forty fields", ofObject > 40, false);
    }
}
