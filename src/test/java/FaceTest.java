import java.lang.reflect.Constructor;
import java.lang.reflect.Field;
import java.lang.reflect.Method;
import java.lang.reflect.Modifier;
import java.util.Set;
import java.util.TreeSet;

/** The class shows the document's face and nothing more, and its fields are such as LANGUAGE.md allows. */
public final class FaceTest {
    private static int wrong = 0;

    private static void due(String what, Object got, Object want) {
        if (!got.equals(want)) {
            wrong++;
            System.out.println(what + ": " + got + ", due is " + want);
        }
    }

    private static String signature(Method method) {
        StringBuilder text = new StringBuilder(method.getReturnType().getName() + " " + method.getName());
        for (Class<?> type : method.getParameterTypes()) {
            text.append(" ").append(type.getName());
        }
        return text.toString();
    }

    private static void methods() {
        Set<String> open = new TreeSet<>();
        Set<String> openNames = new TreeSet<>();
        for (Method method : FlowSuite.class.getDeclaredMethods()) {
            if (!Modifier.isPrivate(method.getModifiers())) {
                open.add(signature(method));
                openNames.add(method.getName());
                due(signature(method) + " is public alone", method.getModifiers(), Modifier.PUBLIC);
            }
        }
        for (Method method : FlowSuite.class.getDeclaredMethods()) {
            due(signature(method) + " has seven parameters at most", method.getParameterCount() <= 7, true);
            if (Modifier.isPrivate(method.getModifiers())) {
                due(method.getName() + " names a public method too", openNames.contains(method.getName()), false);
            }
        }
        Set<String> face = new TreeSet<>(Set.of("int add int int int", "int remove int", "int change int int",
                "int arcs", "int value int int int", "boolean agree int int int int", "int least int int",
                "int most int int", "int tight int int", "int widening int int", "int apart int int",
                "int separate int int", "int weakest", "int throttled int int int", "int fewest int int"));
        due("the public methods", open, face);
    }

    private static void fields() {
        Set<String> open = new TreeSet<>();
        int held = 0;
        for (Field field : FlowSuite.class.getDeclaredFields()) {
            Class<?> type = field.getType();
            if (!Modifier.isPrivate(field.getModifiers())) {
                open.add(Modifier.toString(field.getModifiers()) + " " + type + " " + field.getName());
            }
            if (Modifier.isStatic(field.getModifiers())) {
                boolean constant = Modifier.isFinal(field.getModifiers()) && (type == int.class || type == long.class);
                due(field.getName() + " is a constant", constant, true);
            } else {
                held++;
                Class<?> inner = type.isArray() ? type.getComponentType() : type;
                due(field.getName() + " is of numbers", inner.isPrimitive() && inner != float.class && inner != double.class, true);
            }
        }
        due("the public fields", open, new TreeSet<>(Set.of("public static final int BAD", "public static final int FULL")));
        due("forty fields at most", held <= 40, true);
    }

    public static void main(String[] args) {
        due("the class is public and final", FlowSuite.class.getModifiers(), Modifier.PUBLIC | Modifier.FINAL);
        due("it stands in no package", FlowSuite.class.getPackageName(), "");
        due("its nested classes", FlowSuite.class.getDeclaredClasses().length, 0);
        Constructor<?>[] constructors = FlowSuite.class.getDeclaredConstructors();
        due("its constructors", constructors.length, 1);
        due("the constructor is public", constructors[0].getModifiers(), Modifier.PUBLIC);
        due("the constructor's parameters", constructors[0].getParameterCount(), 0);
        due("BAD", FlowSuite.BAD, -1);
        due("FULL", FlowSuite.FULL, -2);
        methods();
        fields();
        System.out.println(wrong == 0 ? "the face is as due" : wrong + " things are not as due");
        if (wrong != 0) {
            System.exit(1);
        }
    }
}
