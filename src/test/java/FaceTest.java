import java.lang.reflect.Constructor;
import java.lang.reflect.Field;
import java.lang.reflect.Member;
import java.lang.reflect.Method;
import java.lang.reflect.Modifier;
import java.util.Arrays;
import java.util.TreeSet;

/** The face of the class, and promise 1: a new object. */
public final class FaceTest {
    public static void main(String[] args) {
        theFace();
        aNewObject();
        Bench.end();
    }

    private static void theFace() {
        Class<?> c = FormatPress.class;
        Bench.same("final and public", Modifier.isFinal(c.getModifiers()) && Modifier.isPublic(c.getModifiers()), true);
        TreeSet<String> seen = new TreeSet<>();
        for (Method m : c.getDeclaredMethods()) {
            if (!Modifier.isPrivate(m.getModifiers()) && !m.isSynthetic()) {
                seen.add(told(m, m.getReturnType() + " " + m.getName(), m.getParameterTypes(), m.getExceptionTypes()));
            }
        }
        for (Constructor<?> k : c.getDeclaredConstructors()) {
            if (!k.isSynthetic()) {
                seen.add(told(k, "new", k.getParameterTypes(), k.getExceptionTypes()));
            }
        }
        for (Field f : c.getDeclaredFields()) {
            Bench.same(f.getName() + " is private", Modifier.isPrivate(f.getModifiers()) || f.isSynthetic(), true);
        }
        Bench.same("members", seen, new TreeSet<>(Arrays.asList(
            "public new[][]",
            "public int row[long, int, boolean][IllegalArgumentException]",
            "public int format[][IllegalArgumentException, UnsupportedOperationException]",
            "public int clear[][]",
            "public int whole[int, long][IllegalArgumentException, IllegalStateException]",
            "public int real[long, boolean][IllegalStateException]",
            "public int text[][IllegalArgumentException, IllegalStateException]",
            "public int run[][NoSuchElementException, UnsupportedOperationException]",
            "public int kind[][]",
            "public int place[][]",
            "public long output[int][IllegalArgumentException]",
            "public long digest[][]",
            "public long read[boolean][IllegalArgumentException]")));
    }

    private static String told(Member m, String name, Class<?>[] parameters, Class<?>[] exceptions) {
        return Modifier.toString(m.getModifiers()) + " " + name + names(parameters) + names(exceptions);
    }

    private static String names(Class<?>[] classes) {
        String[] names = new String[classes.length];
        for (int i = 0; i < names.length; i++) {
            names[i] = classes[i].getSimpleName();
        }
        return Arrays.toString(names);
    }

    private static void aNewObject() {
        FormatPress press = new FormatPress();
        Bench.same("kind", press.kind(), 0);
        Bench.same("place", press.place(), -1);
        Bench.same("digest", press.digest(), 7L);
        Bench.same("output", press.output(0), 0L);
        Bench.same("arguments", press.clear(), 0);
        Bench.same("run", Bench.told(press::run), "NoSuchElementException");
        Bench.same("row", press.row(0, 0, false), 0);
        Bench.same("read", Bench.told(() -> press.read(false)), "IllegalArgumentException");
        Bench.same("text", press.text(), 1);
        Bench.same("format", press.format(), 0);
        Bench.same("run of nothing", press.run(), 0);
    }
}
