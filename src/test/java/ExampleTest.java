import java.lang.reflect.InvocationTargetException;
import java.lang.reflect.Method;
import java.nio.file.Files;
import java.nio.file.Path;
import java.util.Set;
import java.util.TreeSet;
import java.util.regex.Matcher;
import java.util.regex.Pattern;

/** The example of README.md: its calls are made, and each answers what stands behind it; no call of the face is left out. */
public final class ExampleTest {
    private static final Pattern ROW = Pattern.compile("press\\.(\\w+)\\((.*?)\\); *// (\\w[-\\w]*|-\\d+)\\b.*");

    private static FormatPress press;

    public static void main(String[] args) throws Exception {
        Path readme = Path.of(System.getProperty("project", "."), "README.md");
        Set<String> seen = new TreeSet<>();
        for (String line : Files.readAllLines(readme)) {
            if (line.equals("FormatPress press = new FormatPress();")) {
                press = new FormatPress();
            } else if (line.startsWith("press.")) {
                seen.add(aCall(line));
            }
        }
        Set<String> face = new TreeSet<>();
        for (Method m : FormatPress.class.getMethods()) {
            if (m.getDeclaringClass() == FormatPress.class) {
                face.add(m.getName());
            }
        }
        Bench.same("the calls of the example", seen, face);
        Bench.end();
    }

    private static String aCall(String line) throws Exception {
        Matcher row = ROW.matcher(line);
        if (!row.matches()) {
            Bench.same(line, "not read", "a call with its answer");
            return line;
        }
        Method method = null;
        for (Method m : FormatPress.class.getMethods()) {
            method = m.getName().equals(row.group(1)) ? m : method;
        }
        String due = row.group(3);
        Bench.same(line, answer(method, row.group(2)), due.endsWith("Exception") ? due : Long.toString(number(due)));
        return row.group(1);
    }

    private static String answer(Method method, String arguments) throws Exception {
        Class<?>[] types = method.getParameterTypes();
        String[] texts = arguments.split(", ");
        Object[] values = new Object[types.length];
        for (int i = 0; i < types.length; i++) {
            values[i] = types[i] == boolean.class ? (Object) texts[i].equals("true")
                : types[i] == int.class ? (Object) Integer.decode(texts[i]) : (Object) number(texts[i]);
        }
        try {
            return Long.toString(((Number) method.invoke(press, values)).longValue());
        } catch (InvocationTargetException e) {
            return e.getCause().getClass().getSimpleName();
        }
    }

    private static long number(String text) {
        String digits = text.replace("L", "");
        return digits.startsWith("0x") ? Long.parseUnsignedLong(digits.substring(2), 16) : Long.parseLong(digits);
    }
}
