import java.lang.reflect.Method;
import java.lang.reflect.Modifier;
import java.nio.file.Files;
import java.nio.file.Path;
import java.util.TreeSet;
import java.util.regex.Matcher;
import java.util.regex.Pattern;

/** README.md's example, read from README.md itself: each call answers what stands beside it. */
public final class ReadmeTest {
    private static final Pattern MADE = Pattern.compile("UnboxPlanner p = new UnboxPlanner\\((\\d+)\\);");
    private static final Pattern CALL = Pattern.compile("p\\.(\\w+)\\((.*?)\\); +// (-?\\d+)(:.*)?");
    private static int wrong = 0;

    public static void main(String[] args) throws Exception {
        String text = Files.readString(Path.of("README.md"));
        int start = text.indexOf("```java\n") + "```java\n".length();
        String[] lines = text.substring(start, text.indexOf("```", start)).split("\n");

        Matcher made = MADE.matcher(lines[0]);
        if (!made.matches()) {
            fail("the example does not begin with a new object: " + lines[0]);
        } else {
            TreeSet<String> called = run(new UnboxPlanner(Integer.parseInt(made.group(1))), lines);
            everyMethodIsIn(called);
        }
        System.out.println(wrong == 0 ? "the example is as README.md says" : wrong + " things are not as due");
        if (wrong != 0) {
            System.exit(1);
        }
    }

    private static TreeSet<String> run(UnboxPlanner p, String[] lines) throws Exception {
        TreeSet<String> called = new TreeSet<>();
        for (int i = 1; i < lines.length; i++) {
            Matcher call = CALL.matcher(lines[i]);
            if (!call.matches()) {
                fail("not a call with its answer: " + lines[i]);
                continue;
            }
            called.add(call.group(1));
            int got = answer(p, call.group(1), call.group(2));
            if (got != Integer.parseInt(call.group(3))) {
                fail(call.group(1) + "(" + call.group(2) + ") answered " + got + ", due is " + call.group(3));
            }
        }
        return called;
    }

    private static int answer(UnboxPlanner p, String name, String list) throws Exception {
        String[] texts = list.isEmpty() ? new String[0] : list.split(", ");
        Object[] numbers = new Object[texts.length];
        Class<?>[] types = new Class<?>[texts.length];
        for (int i = 0; i < texts.length; i++) {
            numbers[i] = number(texts[i]);
            types[i] = int.class;
        }
        return (Integer) UnboxPlanner.class.getMethod(name, types).invoke(p, numbers);
    }

    private static int number(String text) throws Exception {
        String constant = "UnboxPlanner.";
        return text.startsWith(constant)
            ? UnboxPlanner.class.getField(text.substring(constant.length())).getInt(null)
            : Integer.parseInt(text);
    }

    private static void everyMethodIsIn(TreeSet<String> called) {
        for (Method m : UnboxPlanner.class.getDeclaredMethods()) {
            if (Modifier.isPublic(m.getModifiers()) && !called.contains(m.getName())) {
                fail("the example does not call " + m.getName());
            }
        }
    }

    private static void fail(String what) {
        wrong++;
        System.out.println(what);
    }
}
