import java.io.IOException;
import java.lang.reflect.Method;
import java.lang.reflect.Modifier;
import java.nio.file.Files;
import java.nio.file.Path;
import java.util.Set;
import java.util.TreeSet;
import java.util.regex.Matcher;
import java.util.regex.Pattern;

/** The calls that README.md shows are made as they stand there, and each must answer what stands behind it. */
public final class ReadmeTest {
    private static final Pattern CALL = Pattern.compile("net\\.(\\w+)\\(([-\\d, ]*)\\); +// ([-\\w]+)(:.*)?");

    private static int wrong = 0;

    private static void fail(String what) {
        wrong++;
        System.out.println("README.md: " + what);
    }

    private static Method methodOf(String name) {
        for (Method method : FlowSuite.class.getDeclaredMethods()) {
            if (Modifier.isPublic(method.getModifiers()) && method.getName().equals(name)) {
                return method;
            }
        }
        throw new IllegalStateException("there is no method " + name);
    }

    private static Object[] numbersIn(String text) {
        if (text.isEmpty()) {
            return new Object[0];
        }
        String[] parts = text.split(", ");
        Object[] numbers = new Object[parts.length];
        for (int i = 0; i < parts.length; i++) {
            numbers[i] = Integer.valueOf(parts[i]);
        }
        return numbers;
    }

    private static String dueFor(String word) {
        return word.equals("BAD") ? "" + FlowSuite.BAD : word.equals("FULL") ? "" + FlowSuite.FULL : word;
    }

    public static void main(String[] args) throws IOException, ReflectiveOperationException {
        FlowSuite net = new FlowSuite();
        Set<String> unshown = new TreeSet<>();
        for (Method method : FlowSuite.class.getDeclaredMethods()) {
            if (Modifier.isPublic(method.getModifiers())) {
                unshown.add(method.getName());
            }
        }
        for (String line : Files.readAllLines(Path.of("README.md"))) {
            if (!line.startsWith("net.")) {
                continue;
            }
            Matcher call = CALL.matcher(line);
            if (!call.matches()) {
                fail("no call with its answer: " + line);
                continue;
            }
            Object got = methodOf(call.group(1)).invoke(net, numbersIn(call.group(2)));
            if (!got.toString().equals(dueFor(call.group(3)))) {
                fail(line + " -- the class answers " + got);
            }
            unshown.remove(call.group(1));
        }
        if (!unshown.isEmpty()) {
            fail("it shows no call of " + unshown);
        }
        System.out.println(wrong == 0 ? "README.md is as due" : wrong + " things are not as due");
        if (wrong != 0) {
            System.exit(1);
        }
    }
}
