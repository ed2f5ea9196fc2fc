import java.io.IOException;
import java.lang.reflect.InvocationTargetException;
import java.lang.reflect.Method;
import java.lang.reflect.Modifier;
import java.nio.file.Files;
import java.nio.file.Path;
import java.util.HashMap;
import java.util.Map;
import java.util.Set;
import java.util.TreeSet;
import java.util.regex.Matcher;
import java.util.regex.Pattern;

/** The examples of README.md: each line is called, and its answer held against the one behind it. */
public final class ReadmeTest {
    private static final Pattern EXAMPLES = Pattern.compile("(?s)```java\n(.*?)```");
    private static final Pattern LINE = Pattern.compile("(int|long) (\\w+) = x\\.(\\w+)\\((.*)\\); +// (.*)");
    private static final Map<String, Method> CALLS = new HashMap<>();
    private static final Set<String> SHOWN = new TreeSet<>();

    private static void example(String[] lines) throws ReflectiveOperationException {
        Due.is("the first line", lines[0], "LeastTerms x = new LeastTerms();");
        Counted x = new Counted();
        Map<String, Long> variables = new HashMap<>();
        for (int i = 1; i < lines.length; i++) {
            Matcher m = LINE.matcher(lines[i]);
            if (!m.matches()) {
                Due.tell("README.md has a line that is no call: " + lines[i]);
                return;
            }
            SHOWN.add(m.group(3));
            String[] due = m.group(5).split(" is ");
            String got = answer(x, m.group(3), m.group(4), variables);
            Due.is(lines[i], got, due[0].startsWith("throws ") ? due[0] : "" + number(due[0], variables));
            if (due.length > 1) {
                Due.is(lines[i], x.value(Integer.parseInt(got)), due[1]);
            }
            if (!got.startsWith("throws ")) {
                Due.is("the type of " + lines[i], m.group(1), CALLS.get(m.group(3)).getReturnType().getName());
                variables.put(m.group(2), Long.parseLong(got));
            }
        }
    }

    private static String answer(Counted x, String name, String list, Map<String, Long> variables) throws ReflectiveOperationException {
        Method call = CALLS.get(name);
        Class<?>[] types = call.getParameterTypes();
        Object[] arguments = new Object[types.length];
        String[] given = list.split(", ");
        for (int i = 0; i < types.length; i++) {
            long v = number(given[i], variables);
            if (types[i] == int.class) {
                arguments[i] = (int) v;
            } else {
                arguments[i] = v;
            }
        }
        try {
            return Counted.class.getDeclaredMethod(name, types).invoke(x, arguments).toString();
        } catch (InvocationTargetException e) {
            return "throws " + e.getCause().getClass().getSimpleName();
        }
    }

    private static long number(String s, Map<String, Long> variables) throws ReflectiveOperationException {
        if (s.matches("'.'")) {
            return s.charAt(1);
        }
        if (s.matches("[A-Z]+")) {
            return LeastTerms.class.getField(s).getInt(null);
        }
        return variables.containsKey(s) ? variables.get(s) : Long.parseLong(s.replaceAll("L$", ""));
    }

    public static void main(String[] args) throws IOException, ReflectiveOperationException {
        Set<String> face = new TreeSet<>();
        for (Method m : LeastTerms.class.getDeclaredMethods()) {
            if (Modifier.isPublic(m.getModifiers())) {
                CALLS.put(m.getName(), m);
                face.add(m.getName());
            }
        }
        Matcher m = EXAMPLES.matcher(Files.readString(Path.of("README.md")));
        while (m.find()) {
            example(m.group(1).split("\n"));
        }
        Due.is("the calls that README.md shows", SHOWN.toString(), face.toString());
        Due.end("ReadmeTest");
    }
}
