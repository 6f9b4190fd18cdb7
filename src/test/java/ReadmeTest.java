import java.io.IOException;
import java.lang.reflect.InvocationTargetException;
import java.lang.reflect.Method;
import java.util.List;
import java.util.Set;
import java.util.TreeSet;
import java.util.regex.Matcher;
import java.util.regex.Pattern;

/**
 * README.md names each method of the document's face as the document has it, and shows it in its examples,
 * taken and refused; each call of the examples answers what stands behind it.
 */
public final class ReadmeTest {
    private static final String MADE = "SeriesSuite x = new SeriesSuite();";
    private static final Pattern CALL = Pattern.compile("x\\.(\\w+)\\(([-0-9, ]*)\\);\\s*// (true|false|BAD|-?\\d+)\\b.*");
    private static final Check CHECK = new Check();
    private static final Set<String> TAKEN = new TreeSet<>();
    private static final Set<String> REFUSED = new TreeSet<>();

    public static void main(String[] args) throws IOException, ReflectiveOperationException {
        examples(Texts.code(Texts.readme()));
        String readme = String.join("\n", Texts.readme());
        for (String line : Texts.face()) {
            Matcher method = Pattern.compile("public ((?:boolean|int) (\\w+)\\(.*\\));").matcher(line);
            if (method.matches()) {
                String name = method.group(2);
                CHECK.due("README.md has `" + method.group(1) + "`", readme.contains("`" + method.group(1) + "`"), true);
                CHECK.due("an example in which " + name + " is taken", TAKEN.contains(name), true);
                CHECK.due("an example in which " + name + " is refused", REFUSED.contains(name), true);
            }
        }
        CHECK.finish();
    }

    private static void examples(List<String> lines) throws ReflectiveOperationException {
        SeriesSuite x = new SeriesSuite();
        for (String line : lines) {
            Matcher call = CALL.matcher(line);
            if (line.equals(MADE)) {
                x = new SeriesSuite();
            } else if (call.matches()) {
                example(x, line, call.group(1), call.group(2).split(", "), call.group(3));
            } else {
                CHECK.due("a call with its answer: " + line, false, true);
            }
        }
    }

    private static void example(SeriesSuite x, String line, String name, String[] numbers, String want)
            throws ReflectiveOperationException {
        String bad = String.valueOf(SeriesSuite.BAD);
        String answer = answer(x, name, numbers);
        CHECK.due(line + " (it answered " + answer + ")", answer.equals(want.equals("BAD") ? bad : want), true);
        boolean refused = answer.equals("false") || answer.equals(bad);
        (refused ? REFUSED : TAKEN).add(name);
    }

    private static String answer(SeriesSuite x, String name, String[] numbers)
            throws IllegalAccessException, InvocationTargetException {
        Object[] arguments = new Object[numbers.length];
        for (int k = 0; k < numbers.length; k++) {
            arguments[k] = Integer.valueOf(numbers[k]);
        }
        for (Method m : SeriesSuite.class.getMethods()) {
            if (m.getName().equals(name) && m.getParameterCount() == numbers.length) {
                return String.valueOf(m.invoke(x, arguments));
            }
        }
        return "nothing, as there is no such method";
    }
}
