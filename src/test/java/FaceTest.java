import java.lang.reflect.Constructor;
import java.lang.reflect.Field;
import java.lang.reflect.Method;
import java.lang.reflect.Modifier;
import java.util.Arrays;
import java.util.Set;
import java.util.TreeSet;

/** The class has the public face of the document and keeps to rules 1, 2 and 5 of LANGUAGE.md. */
public final class FaceTest {
    private static final Set<String> FACE = new TreeSet<>(Arrays.asList(
            "boolean set 3", "boolean fill 4", "int coefficient 2", "int degree 1", "boolean copy 2", "boolean add 3",
            "boolean multiply 3", "boolean agree 4", "boolean cross 2", "boolean invert 1", "boolean rest 2",
            "boolean log 1", "boolean exp 1", "boolean root 1", "int value 2", "boolean shift 2"));
    private static final Check CHECK = new Check();

    public static void main(String[] args) {
        Class<?> c = SeriesSuite.class;
        CHECK.due("public and final", c.getModifiers(), Modifier.PUBLIC | Modifier.FINAL);
        CHECK.due("nested classes", c.getDeclaredClasses().length, 0);
        Constructor<?>[] constructors = c.getDeclaredConstructors();
        CHECK.due("constructors", constructors.length, 1);
        CHECK.due("a public constructor", Modifier.isPublic(constructors[0].getModifiers()), true);
        CHECK.due("its parameters", constructors[0].getParameterCount(), 0);
        methods(c);
        fields(c);
        CHECK.finish();
    }

    private static void methods(Class<?> c) {
        Set<String> open = new TreeSet<>();
        Set<String> openNames = new TreeSet<>();
        for (Method m : c.getDeclaredMethods()) {
            if (!Modifier.isPrivate(m.getModifiers())) {
                open.add(m.getReturnType() + " " + m.getName() + " " + m.getParameterCount());
                openNames.add(m.getName());
                CHECK.due(m + " is public alone", m.getModifiers(), Modifier.PUBLIC);
                for (Class<?> type : m.getParameterTypes()) {
                    CHECK.due(m + " takes ints alone", type == int.class, true);
                }
            }
            CHECK.due(m + " has at most seven parameters", m.getParameterCount() <= 7, true);
        }
        CHECK.due("the public methods " + open + " are those of the document", open.equals(FACE), true);
        for (Method m : c.getDeclaredMethods()) {
            if (Modifier.isPrivate(m.getModifiers())) {
                CHECK.due(m + " bears the name of a public method", openNames.contains(m.getName()), false);
            }
        }
    }

    private static void fields(Class<?> c) {
        int beside = 0;
        for (Field f : c.getDeclaredFields()) {
            boolean constant = Modifier.isStatic(f.getModifiers());
            beside += constant ? 0 : 1;
            Class<?> type = f.getType();
            if (constant) {
                CHECK.due(f + " is a constant int or long",
                        Modifier.isFinal(f.getModifiers()) && (type == int.class || type == long.class), true);
            } else {
                Class<?> element = type.isArray() ? type.getComponentType() : type;
                CHECK.due(f + " is a number or a row of numbers",
                        element.isPrimitive() && element != float.class && element != double.class, true);
            }
            CHECK.due(f + " is public", Modifier.isPublic(f.getModifiers()), f.getName().equals("BAD"));
            CHECK.due(f + " is private or public",
                    Modifier.isPrivate(f.getModifiers()) || Modifier.isPublic(f.getModifiers()), true);
        }
        CHECK.due("at most forty fields beside the constants", beside <= 40, true);
    }
}
