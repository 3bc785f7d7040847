import java.math.BigDecimal;
import java.util.Random;

/** Promise 13: read, against Double.parseDouble and Float.parseFloat. */
public final class ReadTest {
    public static void main(String[] args) {
        written();
        wrong();
        grammar();
        halves();
        many();
        whatStays();
        Bench.end();
    }

    private static String read(String text, boolean small) {
        FormatPress press = Bench.usedPress();
        Bench.row(press, text);
        String told = Bench.told(() -> press.read(small));
        Bench.same("row is empty behind " + text, press.row(0, 0, false), 0);
        return told;
    }

    private static void reads(String text, double due, float smallDue) {
        Bench.same(text, read(text, false), Long.toString(Double.doubleToLongBits(due)));
        Bench.same("small " + text, read(text, true), Long.toString(Float.floatToIntBits(smallDue)));
    }

    /** What Java reads, as bits, or that it is none. */
    private static void asJava(String text) {
        String due;
        String smallDue;
        try {
            due = Long.toString(Double.doubleToLongBits(Double.parseDouble(text)));
            smallDue = Long.toString(Float.floatToIntBits(Float.parseFloat(text)));
        } catch (NumberFormatException e) {
            due = "IllegalArgumentException";
            smallDue = due;
        }
        Bench.same(text, read(text, false), due);
        Bench.same("small " + text, read(text, true), smallDue);
    }

    private static void written() {
        reads("0", 0.0, 0.0f);
        reads("-0", -0.0, -0.0f);
        reads("1.5", 1.5, 1.5f);
        reads("-1.5e2", -150.0, -150.0f);
        reads("NaN", Double.NaN, Float.NaN);
        reads("-NaN", Double.NaN, Float.NaN);
        reads("+NaN", Double.NaN, Float.NaN);
        reads("Infinity", Double.POSITIVE_INFINITY, Float.POSITIVE_INFINITY);
        reads("-Infinity", Double.NEGATIVE_INFINITY, Float.NEGATIVE_INFINITY);
        reads(" \0\t+1.e+01f \n", 10.0, 10.0f);
        reads("0x1.8p1", 3.0, 3.0f);
        reads("-0X.8P-1D", -0.25, -0.25f);
        reads("0x1p-1075", 0.0, 0.0f);
        reads("0x1.0000000000000001p-1075", Double.MIN_VALUE, 0.0f);
        reads("1e400", Double.POSITIVE_INFINITY, Float.POSITIVE_INFINITY);
        reads("-1e-400", -0.0, -0.0f);
        reads("3.4028236e38", 3.4028236e38, Float.POSITIVE_INFINITY);
        reads("0e99999999999999999999", 0.0, 0.0f);
        reads("1e-99999999999999999999", 0.0, 0.0f);
        reads("1e99999999999999999999", Double.POSITIVE_INFINITY, Float.POSITIVE_INFINITY);
        Bench.same("NaN", read("NaN", false), Long.toString(0x7FF8000000000000L));
        Bench.same("small NaN", read("-NaN", true), Long.toString(0x7FC00000L));
        Bench.same("small and below 0", read("-1", true), Long.toString(0xBF800000));
    }

    private static void wrong() {
        String[] texts = {
            "", " ", "+", "-", ".", "+.", "e5", ".e5", "1e", "1e+", "1e-", "1e5.", "1.2.3", "..1", "1..", "--1", "+-1", "- 1", "1 2", "1e 5",
            "NaNf", "NaN1", "nan", "NAN", "Infinityd", "infinity", "Inf", "Infinit", "Infinityy", "0x", "0x1", "0x1.8", "0x.p1", "0xp1",
            "0x1p", "0x1p+", "0x1p1.", "0xg.1p1", "0x1.8e1", "x1p1", "1p1", "0x-1p1", "1ff", "1fd", "1dd", "1g", "1L", "f", "d", "1_0", "1,0",
            "1\1772", "\177", "1\177", "0 x1p1", "00x1p1", "0x1p1p1", "1e1e1", "1f.", ".f", "0xp", "0x.", "1e1x", "%d", "!1", "1!",
        };
        for (String text : texts) {
            Bench.same(text, read(text, false), "IllegalArgumentException");
            Bench.same("small " + text, read(text, true), "IllegalArgumentException");
            asJava(text);
        }
    }

    private static void grammar() {
        Random random = new Random(21);
        String[] letters = {"0", "1", "9", ".", "e", "E", "+", "-", "x", "X", "p", "P", "f", "F", "d", "D", "a", " ", "\t", "0x", "NaN", "Infinity", "7"};
        for (int i = 0; i < 60000; i++) {
            StringBuilder b = new StringBuilder();
            int parts = 1 + random.nextInt(8);
            for (int k = 0; k < parts; k++) {
                b.append(letters[random.nextInt(letters.length)]);
            }
            asJava(b.toString());
        }
    }

    /** Texts at the very middle of two reals, and a little beside it. */
    private static void halves() {
        Random random = new Random(23);
        for (int i = 0; i < 3000; i++) {
            double d = Math.abs(Double.longBitsToDouble(i % 4 == 0 ? random.nextLong() & 0xFFFFFFFFFFFFFL : random.nextLong()));
            if (!Double.isNaN(d) && !Double.isInfinite(d) && d < Double.MAX_VALUE) {
                beside(new BigDecimal(d).add(new BigDecimal(Math.nextUp(d))).divide(BigDecimal.valueOf(2)));
            }
            float f = Math.abs(Float.intBitsToFloat(i % 4 == 0 ? random.nextInt() & 0x7FFFFF : random.nextInt()));
            if (!Float.isNaN(f) && !Float.isInfinite(f) && f < Float.MAX_VALUE) {
                beside(new BigDecimal(f).add(new BigDecimal(Math.nextUp(f))).divide(BigDecimal.valueOf(2)));
            }
        }
        BigDecimal lowest = new BigDecimal(Double.MIN_VALUE).divide(BigDecimal.valueOf(2));
        BigDecimal highest = new BigDecimal(Double.MAX_VALUE).add(new BigDecimal(Math.ulp(Double.MAX_VALUE)).divide(BigDecimal.valueOf(2)));
        beside(lowest);
        beside(highest);
        beside(new BigDecimal(Float.MIN_VALUE).divide(BigDecimal.valueOf(2)));
        beside(new BigDecimal(Float.MAX_VALUE).add(new BigDecimal(Math.ulp(Float.MAX_VALUE)).divide(BigDecimal.valueOf(2))));
    }

    private static void beside(BigDecimal half) {
        String digits = half.unscaledValue().toString();
        String exponent = "e" + -half.scale();
        asJava(digits + exponent);
        asJava(digits + ".0000000001" + exponent);
        asJava(half.unscaledValue().subtract(java.math.BigInteger.ONE) + "." + "9".repeat(9) + exponent);
    }

    private static void many() {
        Random random = new Random(25);
        for (int i = 0; i < 20000; i++) {
            asJava(Double.toString(Double.longBitsToDouble(random.nextLong())));
            asJava(Double.toHexString(Double.longBitsToDouble(random.nextLong())));
            asJava(random.nextInt(100000) + "." + random.nextInt(100000) + "e" + (random.nextInt(700) - 350));
            asJava("0x" + Long.toHexString(random.nextLong()) + "." + Long.toHexString(random.nextLong()) + "p" + (random.nextInt(2400) - 1200));
            asJava(random.nextInt(1000) + "e" + (random.nextInt(120) - 60));
        }
        for (int i = 0; i < 500; i++) {
            asJava(digits(random, 700, 10) + "." + digits(random, 60, 10) + "e" + (random.nextInt(2200) - 1100));
            asJava("0." + "0".repeat(random.nextInt(400)) + digits(random, 350, 10) + "e" + (random.nextInt(1200) - 600));
            asJava("0x" + digits(random, 700, 16) + "." + digits(random, 60, 16) + "p" + (random.nextInt(8000) - 4000));
            asJava("0x0." + "0".repeat(random.nextInt(400)) + digits(random, 350, 16) + "p" + (random.nextInt(6000) - 3000));
        }
        asJava("9".repeat(800));
        asJava("0." + "0".repeat(797) + "1");
        asJava("0x" + "f".repeat(796) + "p1");
        asJava("1" + "0".repeat(790) + "e-790");
        asJava("." + "0".repeat(700) + "1e701");
    }

    private static String digits(Random random, int most, int base) {
        StringBuilder b = new StringBuilder();
        int count = 1 + random.nextInt(most);
        for (int i = 0; i < count; i++) {
            b.append(Character.forDigit(random.nextInt(base), base));
        }
        return b.toString();
    }

    private static void whatStays() {
        FormatPress press = new FormatPress();
        press.whole(5, 1);
        Bench.format(press, "%d%d");
        Bench.told(press::run);
        Bench.row(press, "12");
        Bench.same("read", press.read(false), Double.doubleToRawLongBits(12.0));
        Bench.same("no more", Bench.told(() -> press.read(false)), "IllegalArgumentException");
        Bench.same("kind stays", press.kind(), 8);
        Bench.same("place stays", press.place(), 2);
        Bench.same("arguments stay", press.clear(), 1);
    }
}
