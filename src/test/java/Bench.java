import java.nio.charset.StandardCharsets;

/** What the tests share: feeding an object with texts, reading its output, and telling what is wrong. */
final class Bench {
    private static int wrong = 0;
    private static int uses = 0;
    private static FormatPress used;
    private static String sentence = "";

    private Bench() {
    }

    /** The sentence of the document that is tested from here on: it is told with each wrong answer. */
    static void says(String words) {
        sentence = "\"" + words + "\": ";
    }

    static void same(String what, Object got, Object due) {
        if (!due.equals(got)) {
            wrong++;
            if (wrong <= 50) {
                System.out.println(sentence + what + " answered " + got + ", due is " + due);
            }
        }
    }

    /** Ends the test: with exit code 1 if an answer was wrong. */
    static void end() {
        if (wrong > 0) {
            System.out.println(wrong + " wrong answers");
            System.exit(1);
        }
    }

    /** A call whose answer or exception is told as a text. */
    interface Call {
        long go();
    }

    /** The answer as a number, or the plain name of the exception. */
    static String told(Call call) {
        try {
            return Long.toString(call.go());
        } catch (RuntimeException e) {
            return e.getClass().getSimpleName();
        }
    }

    /** Makes ROW this text, whose characters are bytes. */
    static int row(FormatPress press, String text) {
        int length = press.row(0, 0, true);
        for (int at = 0; at < text.length(); at += 8) {
            int n = Math.min(8, text.length() - at);
            long w = 0;
            for (int i = 0; i < n; i++) {
                w = w << 8 | text.charAt(at + i);
            }
            length = press.row(w, n, false);
        }
        return length;
    }

    static String format(FormatPress press, String text) {
        row(press, text);
        return told(press::format);
    }

    static void text(FormatPress press, String text) {
        row(press, text);
        press.text();
    }

    /** Adds an argument as java.util.Formatter would take it. */
    static void argument(FormatPress press, Object o) {
        if (o == null) {
            press.whole(0, 0);
        } else if (o instanceof Boolean) {
            press.whole(1, (Boolean) o ? 1 : 0);
        } else if (o instanceof Character) {
            press.whole(2, (Character) o);
        } else if (o instanceof Byte) {
            press.whole(3, (Byte) o);
        } else if (o instanceof Short) {
            press.whole(4, (Short) o);
        } else if (o instanceof Integer) {
            press.whole(5, (Integer) o);
        } else if (o instanceof Long) {
            press.whole(6, (Long) o);
        } else if (o instanceof Double) {
            press.real(Double.doubleToRawLongBits((Double) o), false);
        } else if (o instanceof Float) {
            press.real(Float.floatToRawIntBits((Float) o), true);
        } else {
            text(press, (String) o);
        }
    }

    /** What a run of the object's own FORMAT writes, a byte a character; of a fault or no FORMAT the exception. */
    static String ran(FormatPress press) {
        String told = told(press::run);
        return told.matches("\\d+") ? new String(bytes(press, Integer.parseInt(told)), StandardCharsets.ISO_8859_1) : told;
    }

    /** The kind and place of the latest fault, as "kind place". */
    static String fault(FormatPress press) {
        return press.kind() + " " + press.place();
    }

    /** What ROW holds, a byte a character; ROW must be short enough for a text, and there must be room for one. */
    static String takenRow(FormatPress press) {
        int number = press.text();
        format(press, "%" + number + "$s");
        return ran(press);
    }

    /** OUTPUT, of so many bytes. */
    static byte[] bytes(FormatPress press, int length) {
        byte[] bytes = new byte[length];
        for (int i = 0; i < length; i++) {
            bytes[i] = (byte) (press.output(i / 8 * 8) >>> 56 - i % 8 * 8);
        }
        return bytes;
    }

    /** An object that is used four times, so that what an earlier use leaves behind shows; empty but for that. */
    static FormatPress usedPress() {
        if (uses % 4 == 0) {
            used = new FormatPress();
        }
        uses++;
        used.clear();
        return used;
    }

    /** What a format writes of arguments; of a fault its kind and place. */
    static String written(String format, Object... arguments) {
        FormatPress press = usedPress();
        for (Object o : arguments) {
            argument(press, o);
        }
        row(press, format);
        try {
            press.format();
            int length = press.run();
            return new String(bytes(press, length), StandardCharsets.UTF_8);
        } catch (UnsupportedOperationException e) {
            return "fault " + press.kind() + " at " + press.place();
        }
    }

    static void writes(String due, String format, Object... arguments) {
        same(format + " of " + java.util.Arrays.toString(arguments), written(format, arguments), due);
    }
}
