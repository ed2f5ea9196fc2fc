import java.io.IOException;
import java.lang.management.ManagementFactory;
import java.lang.reflect.Constructor;
import java.lang.reflect.Field;
import java.lang.reflect.Method;
import java.lang.reflect.Modifier;
import java.nio.file.Files;
import java.nio.file.Path;
import java.util.Arrays;
import java.util.Set;
import java.util.TreeSet;
import java.util.regex.Matcher;
import java.util.regex.Pattern;

/** The face, the rules of LANGUAGE.md that can be looked up in the file, and the room that a run takes. */
public final class RulesTest {
    private static final Path SOURCE = Path.of("src/main/java/LeastTerms.java");

    private static final String[] FACE = {
        "int whole(long)", "int shifted(int) NegativeArraySizeException", "int over(int, int) ArithmeticException",
        "int apply(int, int, int) ArithmeticException", "int power(int, int) ArithmeticException", "int near(int, int)",
        "int common(int, int)", "int drop(int)", "int count()", "int compare(int, int)", "int of(int, int)",
        "int limb(int, int, int) ArrayIndexOutOfBoundsException", "int terms(int)", "int term(int, int)",
        "int part(int, int)", "int best(int, long)", "long exact(int, int) ArithmeticException", "long real(int)",
        "int single(int)", "int ofReal(long) ArithmeticException", "int feed(int)", "int read() ArithmeticException",
        "int text(int)", "int figures(int, int)", "int out(int)", "int period(int, int)",
    };

    private static String names(Class<?>[] types) {
        StringBuilder s = new StringBuilder();
        for (Class<?> t : types) {
            s.append(s.length() == 0 ? "" : ", ").append(t.getSimpleName());
        }
        return s.toString();
    }

    private static void face() {
        Set<String> found = new TreeSet<>();
        for (Method m : LeastTerms.class.getDeclaredMethods()) {
            if (!Modifier.isPrivate(m.getModifiers())) {
                String thrown = names(m.getExceptionTypes());
                found.add((m.getReturnType().getSimpleName() + " " + m.getName() + "(" + names(m.getParameterTypes()) + ") " + thrown).trim());
                Due.is(m.getName() + " is public and no more", m.getModifiers(), Modifier.PUBLIC);
            }
        }
        Due.is("the face", found.toString(), new TreeSet<>(Arrays.asList(FACE)).toString());
        Due.is("the class", LeastTerms.class.getModifiers(), Modifier.PUBLIC | Modifier.FINAL);
        Constructor<?>[] constructors = LeastTerms.class.getDeclaredConstructors();
        Due.is("the constructors", constructors.length, 1);
        Due.is("the constructor", constructors[0].getModifiers(), Modifier.PUBLIC);
        int[] constants = {LeastTerms.BAD, LeastTerms.NO, LeastTerms.FULL, LeastTerms.WIDE, LeastTerms.NONE};
        Due.is("the constants", Arrays.toString(constants), "[-1, -2, -3, -4, -5]");
        Set<String> visible = new TreeSet<>();
        for (Field f : LeastTerms.class.getDeclaredFields()) {
            if (!Modifier.isPrivate(f.getModifiers())) {
                visible.add(f.getName());
            }
        }
        Due.is("the fields that are not private", visible.toString(), "[BAD, FULL, NO, NONE, WIDE]");
    }

    private static void inside() {
        Set<String> publicNames = new TreeSet<>();
        for (Method m : LeastTerms.class.getMethods()) {
            if (m.getDeclaringClass() == LeastTerms.class) {
                publicNames.add(m.getName());
            }
        }
        Class<?>[] classes = LeastTerms.class.getDeclaredClasses();
        Due.is("at most twelve classes", classes.length < 12 ? 1 : 0, 1);
        for (Class<?> c : classes) {
            Due.is(c.getName() + " is static", Modifier.isStatic(c.getModifiers()) ? 1 : 0, 1);
            look(c, publicNames);
        }
        look(LeastTerms.class, publicNames);
    }

    private static void look(Class<?> c, Set<String> publicNames) {
        int fields = 0;
        for (Field f : c.getDeclaredFields()) {
            boolean isStatic = Modifier.isStatic(f.getModifiers());
            Due.is(c.getName() + "." + f.getName() + " is no static state", isStatic && !Modifier.isFinal(f.getModifiers()) ? 1 : 0, 0);
            fields += isStatic ? 0 : 1;
        }
        Due.is(c.getName() + " has at most twenty fields", fields <= 20 ? 1 : 0, 1);
        for (Method m : c.getDeclaredMethods()) {
            boolean isOwn = c != LeastTerms.class || Modifier.isPrivate(m.getModifiers());
            Due.is(c.getName() + "." + m.getName() + " has a name of its own", isOwn && publicNames.contains(m.getName()) ? 1 : 0, 0);
            Due.is(c.getName() + "." + m.getName() + " takes at most seven", m.getParameterCount() <= 7 ? 1 : 0, 1);
        }
    }

    private static void source() throws IOException {
        String code = Files.readString(SOURCE).replaceAll("(?s)/\\*.*?\\*/", "").replaceAll("//[^\n]*", "").replaceAll("\"[^\"\n]*\"", "");
        String[] ruledOut = {
            "\\bimport\\b", "\\bpackage\\b", "->", "::", "\\btry\\b", "\\bcatch\\b", "\\bfinally\\b", "\\bsynchronized\\b",
            "\\bassert\\b", "\\bdouble\\b", "\\bfloat\\b", "\\bfor \\(;;", "while \\(true", "Exact\\(", "static \\{", "System\\.(?!arraycopy)",
            "Long\\.(?!compare)", "Integer\\.(?!numberOfLeadingZeros)", "Math\\.(?!min|max|abs)",
            "throw new (?!ArithmeticException|NegativeArraySizeException|ArrayIndexOutOfBoundsException)",
        };
        for (String s : ruledOut) {
            Matcher m = Pattern.compile(s).matcher(code);
            Due.is("the file has " + s, m.find() ? 1 : 0, 0);
        }
        int open = -1;
        String[] lines = code.split("\n");
        for (int i = 0; i < lines.length; i++) {
            if (lines[i].matches("^ {4,8}[a-zA-Z].*\\) (throws \\w+ )?\\{$")) {
                open = i;
            }
            if (open >= 0 && lines[i].matches("^ {4,8}\\}$")) {
                Due.is("the method at line " + open + " is short", i - open <= 60 ? 1 : 0, 1);
                open = -1;
            }
        }
    }

    private static long made() {
        return ((com.sun.management.ThreadMXBean) ManagementFactory.getThreadMXBean()).getThreadAllocatedBytes(Thread.currentThread().getId());
    }

    /** No call makes anything; an object takes some thousands of elements, once. */
    private static void room() {
        everyCall(new LeastTerms());
        made();
        long start = made();
        LeastTerms x = new LeastTerms();
        long built = made();
        everyCall(x);
        long end = made();
        Due.isTrue("an object's bytes are few: " + (built - start), built - start < 20000);
        Due.isTrue("all calls make nothing: " + (end - built), end - built < 2000);
    }

    /** Some 500 calls. */
    private static void everyCall(LeastTerms x) {
        int three = x.whole(3);
        int seven = x.whole(-7);
        int first = x.power(three, 322);
        int second = x.power(seven, 181);
        int a = x.over(first, second);
        int b = x.over(second, first);
        int big = x.whole(Long.MIN_VALUE);
        for (int i = 0; i < 13; i++) {
            x.drop(x.shifted(15));
            x.drop(x.over(a, b));
            x.drop(x.apply(0, a, b));
            x.drop(x.apply(3, a, b));
            x.drop(x.power(big, -8));
            x.drop(x.near(a, 2));
            x.drop(x.common(big, big));
            x.drop(x.term(a, 100));
            x.drop(x.part(a, 100));
            x.drop(x.best(a, Long.MAX_VALUE));
            x.drop(x.ofReal(0x3ff123456789abcdL));
            x.feed('1');
            x.feed('/');
            x.feed('3');
            x.drop(x.read());
            x.compare(a, b);
            x.of(a, 2);
            x.limb(a, 0, 1);
            x.terms(a);
            x.exact(big, 4);
            x.real(a);
            x.single(a);
            x.text(a);
            x.figures(a, 100);
            x.period(a, 1);
            x.out(1);
        }
    }

    public static void main(String[] args) throws IOException {
        face();
        inside();
        source();
        room();
        Due.end("RulesTest");
    }
}
