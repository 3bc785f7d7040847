/** Promise 2: row. */
public final class RowTest {
    public static void main(String[] args) {
        countsAndOrder();
        wrongInputs();
        theLimit();
        Bench.end();
    }

    private static void countsAndOrder() {
        FormatPress press = new FormatPress();
        Bench.same("no byte", press.row(-1L, 0, false), 0);
        Bench.same("low three", press.row(0x7F7F7F7F7F616263L, 3, false), 3);
        Bench.same("high ones do not count", press.row(0xFFFFFFFFFFFFFF64L, 1, false), 4);
        Bench.same("eight", press.row(0x4142434445464748L, 8, false), 12);
        press.format();
        press.run();
        Bench.same("the first", press.output(0), 0x6162636441424344L);
        Bench.same("the rest", press.output(8), 0x4546474800000000L);
        Bench.same("empty after format", press.row(0x41, 1, false), 1);
        Bench.same("fresh", press.row(0x4243, 2, true), 2);
        Bench.same("fresh and none", press.row(0, 0, true), 0);
        Bench.same("the bytes 0 and 127", press.row(0x007F, 2, false), 2);
        press.format();
        Bench.same("run", press.run(), 2);
        Bench.same("both", press.output(0), 0x007F000000000000L);
    }

    private static void wrongInputs() {
        FormatPress press = new FormatPress();
        press.row(0x6162, 2, true);
        for (boolean fresh : new boolean[] {false, true}) {
            for (int n : new int[] {-1, 9, Integer.MIN_VALUE, Integer.MAX_VALUE, 64}) {
                Bench.same("n " + n, Bench.told(() -> press.row(0, n, fresh)), "IllegalArgumentException");
            }
            for (int i = 0; i < 8; i++) {
                long w = 0x80L << 8 * i;
                int n = i + 1;
                Bench.same("byte " + i, Bench.told(() -> press.row(w, n, fresh)), "IllegalArgumentException");
                Bench.same("none of it", Bench.told(() -> press.row(w, n - 1, false)).equals("IllegalArgumentException"), false);
                press.row(0x6162, 2, true);
            }
        }
        Bench.same("it stays", press.row(0, 0, false), 2);
        press.format();
        press.run();
        Bench.same("as it was", press.output(0), 0x6162000000000000L);
    }

    private static void theLimit() {
        FormatPress press = new FormatPress();
        for (int i = 1; i <= 99; i++) {
            Bench.same("length", press.row(0x3030303030303030L, 8, false), 8 * i);
        }
        Bench.same("799", press.row(0x30303030303030L, 7, false), 799);
        Bench.same("801", Bench.told(() -> press.row(0x3030, 2, false)), "IllegalArgumentException");
        Bench.same("800", press.row(0x31, 1, false), 800);
        Bench.same("one more", Bench.told(() -> press.row(0x31, 1, false)), "IllegalArgumentException");
        Bench.same("none more", press.row(0x31, 0, false), 800);
        Bench.same("wrong and fresh", Bench.told(() -> press.row(0x80, 1, true)), "IllegalArgumentException");
        Bench.same("too long for a text", Bench.told(press::text), "IllegalArgumentException");
        Bench.same("read", press.read(false), Double.doubleToRawLongBits(1.0));
        Bench.same("empty then", press.row(0, 0, false), 0);
    }
}
