/** Promises 4 to 7: clear, whole, real and text. */
public final class ArgumentsTest {
    public static void main(String[] args) {
        clear();
        wholes();
        wrongWholes();
        reals();
        texts();
        theLimit();
        Bench.end();
    }

    private static void clear() {
        FormatPress press = new FormatPress();
        press.whole(0, 0);
        press.real(0, true);
        press.text();
        Bench.same("three", press.clear(), 3);
        Bench.same("none", press.clear(), 0);
        Bench.same("from one on", press.whole(5, 7), 1);
        Bench.format(press, "%d");
        Bench.same("the new one", press.run(), 1);
        Bench.same("its digit", press.output(0), 0x3700000000000000L);
        press.clear();
        Bench.same("none to run on", Bench.told(press::run), "UnsupportedOperationException");
    }

    private static void wholes() {
        FormatPress press = new FormatPress();
        press.whole(0, -5);
        press.whole(1, 0);
        press.whole(1, Long.MIN_VALUE);
        press.whole(2, 0x1F600);
        press.whole(3, 0x1FF);
        press.whole(4, 0x18000);
        press.whole(5, 0x180000000L);
        Bench.same("how many", press.whole(6, Long.MIN_VALUE), 8);
        Bench.format(press, "%s %s %s %s %s %s %s %s %1$c");
        String written = new String(Bench.bytes(press, press.run()), java.nio.charset.StandardCharsets.UTF_8);
        Bench.same("as by s", written, "null false true \uD83D\uDE00 -1 -32768 -2147483648 -9223372036854775808 null");
    }

    private static void wrongWholes() {
        FormatPress press = new FormatPress();
        for (int what : new int[] {-1, 7, 8, 9, Integer.MAX_VALUE, Integer.MIN_VALUE}) {
            Bench.same("what " + what, Bench.told(() -> press.whole(what, 0)), "IllegalArgumentException");
        }
        for (long v : new long[] {-1, 1114112, Long.MAX_VALUE, Long.MIN_VALUE, 1L << 32}) {
            Bench.same("character " + v, Bench.told(() -> press.whole(2, v)), "IllegalArgumentException");
        }
        Bench.same("none came", press.clear(), 0);
        Bench.same("0", press.whole(2, 0), 1);
        Bench.same("1114111", press.whole(2, 1114111), 2);
        Bench.same("55296", press.whole(2, 55296), 3);
    }

    private static void reals() {
        FormatPress press = new FormatPress();
        press.real(Double.doubleToRawLongBits(1.5), false);
        press.real(Float.floatToRawIntBits(2.5f), true);
        Bench.same("high bits do not count", press.real(0xABCDEF0000000000L | Float.floatToRawIntBits(3.5f), true), 3);
        press.real(Float.floatToRawIntBits(-4.5f), true);
        Bench.format(press, "%s %s %s %s");
        Bench.same("all", new String(Bench.bytes(press, press.run())), "1.5 2.5 3.5 -4.5");
    }

    private static void texts() {
        FormatPress press = new FormatPress();
        Bench.row(press, "first");
        Bench.same("one", press.text(), 1);
        Bench.same("row is empty", press.row(0, 0, false), 0);
        Bench.same("the empty text", press.text(), 2);
        String long200 = "0123456789".repeat(20);
        Bench.row(press, long200);
        Bench.same("200", press.text(), 3);
        Bench.row(press, long200 + "x");
        Bench.same("201", Bench.told(press::text), "IllegalArgumentException");
        Bench.same("row stays", press.row(0, 0, false), 201);
        Bench.text(press, "last");
        Bench.format(press, "%s|%s|%s|%s");
        Bench.same("all", new String(Bench.bytes(press, press.run())), "first||" + long200 + "|last");
    }

    private static void theLimit() {
        FormatPress press = new FormatPress();
        for (int i = 1; i <= 24; i++) {
            Bench.text(press, "t" + i);
        }
        Bench.row(press, "abc");
        Bench.same("text", Bench.told(press::text), "IllegalStateException");
        Bench.same("row stays", press.row(0, 0, false), 3);
        Bench.same("real", Bench.told(() -> press.real(0, false)), "IllegalStateException");
        Bench.same("whole", Bench.told(() -> press.whole(5, 0)), "IllegalStateException");
        Bench.same("what first", Bench.told(() -> press.whole(7, 0)), "IllegalArgumentException");
        Bench.same("character first", Bench.told(() -> press.whole(2, -1)), "IllegalArgumentException");
        Bench.row(press, "x".repeat(201));
        Bench.same("too long first", Bench.told(press::text), "IllegalArgumentException");
        Bench.format(press, "%24$s%s");
        Bench.same("the last and the first", new String(Bench.bytes(press, press.run())), "t24t1");
        Bench.same("24", press.clear(), 24);
        Bench.same("room again", press.whole(0, 0), 1);
    }
}
