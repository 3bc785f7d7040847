import java.nio.charset.StandardCharsets;

/** Promises 11 and 12: output and digest. */
public final class OutputTest {
    public static void main(String[] args) {
        words();
        digests();
        wrongPlaces();
        Bench.end();
    }

    private static void words() {
        FormatPress press = new FormatPress();
        Bench.format(press, "abcdefghijk");
        press.run();
        Bench.same("0", press.output(0), 0x6162636465666768L);
        Bench.same("1", press.output(1), 0x6263646566676869L);
        Bench.same("8", press.output(8), 0x696A6B0000000000L);
        Bench.same("10", press.output(10), 0x6B00000000000000L);
        Bench.same("11", press.output(11), 0L);
        Bench.same("6000", press.output(6000), 0L);
        Bench.format(press, "z");
        Bench.same("format leaves it", press.output(8), 0x696A6B0000000000L);
        press.run();
        Bench.same("a shorter one", press.output(0), 0x7A00000000000000L);
    }

    private static void digests() {
        FormatPress press = new FormatPress();
        Bench.format(press, "a%c%c");
        press.whole(2, 0x20AC);
        press.whole(2, 0x10FFFF);
        int length = press.run();
        long due = 7;
        for (byte b : ("a\u20AC" + new String(Character.toChars(0x10FFFF))).getBytes(StandardCharsets.UTF_8)) {
            due = due * 31 + (b & 255);
        }
        Bench.same("length", length, 8);
        Bench.same("digest", press.digest(), due);
        Bench.same("bytes", press.output(0), 0x61E282ACF48FBFBFL);
        press.clear();
        Bench.same("a fault", Bench.told(press::run), "UnsupportedOperationException");
        Bench.same("of nothing", press.digest(), 7L);
        Bench.same("nothing", press.output(0), 0L);
    }

    private static void wrongPlaces() {
        FormatPress press = new FormatPress();
        for (int at : new int[] {-1, 6001, Integer.MIN_VALUE, Integer.MAX_VALUE}) {
            Bench.same("at " + at, Bench.told(() -> press.output(at)), "IllegalArgumentException");
        }
        Bench.format(press, "%2000s%2000s%2000s");
        for (int i = 0; i < 3; i++) {
            Bench.text(press, "x" + i);
        }
        Bench.same("6000 bytes", press.run(), 6000);
        Bench.same("the last", press.output(5999), 0x3200000000000000L);
        Bench.same("the last eight", press.output(5992), 0x2020202020207832L);
        Bench.same("behind", press.output(6000), 0L);
    }
}
