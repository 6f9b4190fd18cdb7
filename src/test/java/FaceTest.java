import java.io.IOException;
import java.lang.reflect.Constructor;
import java.lang.reflect.Executable;
import java.lang.reflect.Field;
import java.lang.reflect.Method;
import java.lang.reflect.Modifier;
import java.util.ArrayList;
import java.util.Collections;
import java.util.List;
import java.util.Set;
import java.util.StringJoiner;
import java.util.TreeSet;

/**
 * The class has the public face of the document's code block, line for line, and keeps to what reflection shows of the
 * rules 1, 2, 5 and 10 of LANGUAGE.md.
 * The names of the parameters are seen only if the class is compiled with -parameters.
 */
public final class FaceTest {
    private static final Check CHECK = new Check();

    public static void main(String[] args) throws IOException, IllegalAccessException {
        Class<?> c = SeriesSuite.class;
        sameLines(Texts.face(), faceOf(c));
        CHECK.due("BAD can stand where only a constant can", isBad(-2), true);
        CHECK.due("it extends nothing", c.getSuperclass() == Object.class, true);
        CHECK.due("interfaces", c.getInterfaces().length, 0);
        CHECK.due("nested classes", c.getDeclaredClasses().length, 0);
        methods(c);
        fields(c);
        CHECK.finish();
    }

    private static void sameLines(List<String> due, List<String> got) {
        CHECK.due("the document's face has 19 lines", due.size(), 19);
        CHECK.due("lines of the class's face", got.size(), due.size());
        for (String line : due) {
            CHECK.due("the class has: " + line, Collections.frequency(got, line), 1);
        }
        for (String line : got) {
            CHECK.due("the document has: " + line, Collections.frequency(due, line), 1);
        }
    }

    /** Whatever is not private, in the form of the document's code block. */
    private static List<String> faceOf(Class<?> c) throws IllegalAccessException {
        List<String> lines = new ArrayList<>();
        lines.add(Modifier.toString(c.getModifiers()) + " class " + c.getName() + " {");
        for (Field f : c.getDeclaredFields()) {
            if (!Modifier.isPrivate(f.getModifiers())) {
                Object value = Modifier.isStatic(f.getModifiers()) ? f.get(null) : "";
                lines.add(Modifier.toString(f.getModifiers()) + " " + f.getType() + " " + f.getName() + " = " + value + ";");
            }
        }
        for (Constructor<?> made : c.getDeclaredConstructors()) {
            if (!Modifier.isPrivate(made.getModifiers())) {
                lines.add(line(made, made.getName()));
            }
        }
        for (Method m : c.getDeclaredMethods()) {
            if (!Modifier.isPrivate(m.getModifiers())) {
                lines.add(line(m, m.getReturnType() + " " + m.getName()));
            }
        }
        return lines;
    }

    private static String line(Executable e, String name) {
        StringJoiner parameters = new StringJoiner(", ", "(", ");");
        for (var p : e.getParameters()) {
            parameters.add(p.getType() + " " + p.getName());
        }
        return Modifier.toString(e.getModifiers()) + " " + name + parameters;
    }

    private static boolean isBad(int answer) {
        switch (answer) {
            case SeriesSuite.BAD:
                return true;
            default:
                return false;
        }
    }

    private static void methods(Class<?> c) {
        Set<String> open = new TreeSet<>();
        for (Method m : c.getDeclaredMethods()) {
            if (Modifier.isPublic(m.getModifiers())) {
                open.add(m.getName());
            }
            CHECK.due(m + " has at most seven parameters", m.getParameterCount() <= 7, true);
            CHECK.due(m + " declares exceptions", m.getExceptionTypes().length, 0);
        }
        for (Method m : c.getDeclaredMethods()) {
            if (Modifier.isPrivate(m.getModifiers())) {
                CHECK.due(m + " bears the name of a public method", open.contains(m.getName()), false);
            }
        }
    }

    private static void fields(Class<?> c) {
        int beside = 0;
        for (Field f : c.getDeclaredFields()) {
            boolean constant = Modifier.isStatic(f.getModifiers());
            beside += constant ? 0 : 1;
            Class<?> type = f.getType();
            if (constant) {
                CHECK.due(f + " is a constant int or long",
                        Modifier.isFinal(f.getModifiers()) && (type == int.class || type == long.class), true);
            } else {
                Class<?> element = type.isArray() ? type.getComponentType() : type;
                CHECK.due(f + " is a number or a row of numbers",
                        element.isPrimitive() && element != float.class && element != double.class, true);
            }
        }
        CHECK.due("at most forty fields beside the constants", beside <= 40, true);
    }
}
