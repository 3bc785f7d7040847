import java.math.BigDecimal;
import java.math.BigInteger;

/** The boundary cases of reading: paragraph 4 of the terms, sentence by sentence. */
public final class ReadEdgesTest {
    private static final double LARGEST_SUBNORMAL = Double.longBitsToDouble(0xFFFFFFFFFFFFFL);

    public static void main(String[] args) {
        blanks();
        signs();
        words();
        digitsAndPoint();
        exponents();
        sixteens();
        letterBehind();
        everyByte();
        nearest();
        evenOfTwo();
        beyondThem();
        tooSmall();
        subnormal();
        smallRoundedOnce();
        longTexts();
        farExponents();
        Bench.end();
    }

    private static String read(String text, boolean small) {
        FormatPress press = Bench.usedPress();
        Bench.row(press, text);
        return Bench.told(() -> press.read(small));
    }

    private static void reads(String text, double due, float smallDue) {
        Bench.same(text, read(text, false), Long.toString(Double.doubleToRawLongBits(due)));
        Bench.same("small " + text, read(text, true), Integer.toString(Float.floatToRawIntBits(smallDue)));
    }

    private static void refused(String... texts) {
        for (String text : texts) {
            Bench.same(text, read(text, false), "IllegalArgumentException");
            Bench.same("small " + text, read(text, true), "IllegalArgumentException");
        }
    }

    private static void blanks() {
        Bench.says("4 bytes 0 to 32 before and behind are nothing");
        for (int b = 0; b < 128; b++) {
            String one = Character.toString((char) b);
            if (b <= 32) {
                reads(one + "15", 15.0, 15.0f);
                reads("15" + one, 15.0, 15.0f);
                reads(one + one + "-1.5e1f" + one + one, -15.0, -15.0f);
                reads(one + "NaN" + one, Double.NaN, Float.NaN);
                reads(one + "-Infinity" + one, Double.NEGATIVE_INFINITY, Float.NEGATIVE_INFINITY);
                reads(one + "0x1p1" + one, 2.0, 2.0f);
                refused("1" + one + "5", "-" + one + "15", "1" + one + "e1", "1e" + one + "1", "0" + one + "x1p1",
                    "0x" + one + "1p1", "15" + one + "f", "Na" + one + "N");
                refused(one, one + one);
            }
        }
        refused("!15", "15!", "\17715", "15\177");
        reads(" ".repeat(399) + "15" + " ".repeat(399), 15.0, 15.0f);
        refused("", " ".repeat(800));
    }

    private static void signs() {
        Bench.says("4 a sign perhaps");
        reads("1", 1.0, 1.0f);
        reads("+1", 1.0, 1.0f);
        reads("-1", -1.0, -1.0f);
        reads("-0", -0.0, -0.0f);
        reads("+0", 0.0, 0.0f);
        reads("-.0e5", -0.0, -0.0f);
        reads("+0x1p0", 1.0, 1.0f);
        reads("-0x0p0", -0.0, -0.0f);
        refused("++1", "--1", "+-1", "-+1", "1-", "1+", "+", "-", "0x-1p0", "0x+1p0", "-+Infinity");
    }

    private static void words() {
        Bench.says("4 NaN, Infinity");
        reads("Infinity", Double.POSITIVE_INFINITY, Float.POSITIVE_INFINITY);
        reads("+Infinity", Double.POSITIVE_INFINITY, Float.POSITIVE_INFINITY);
        reads("-Infinity", Double.NEGATIVE_INFINITY, Float.NEGATIVE_INFINITY);
        refused("Infinit", "Infinityy", "infinity", "INFINITY", "Inf", "I", "NaNN", "Na", "N", "nan", "NAN", "NaN0", "0NaN",
            "Infinity0", "1Infinity", "NaNe1", "Infinitye1");
        Bench.says("4 (NaN is 7FC00000, of 64 bits 7FF8000000000000, in sixteens, whatever its sign)");
        for (String nan : new String[] {"NaN", "+NaN", "-NaN"}) {
            Bench.same(nan, read(nan, false), Long.toString(0x7FF8000000000000L));
            Bench.same("small " + nan, read(nan, true), Long.toString(0x7FC00000L));
        }
        Bench.says("4 f F d D (not behind NaN or Infinity)");
        for (String letter : "f F d D".split(" ")) {
            refused("NaN" + letter, "Infinity" + letter, "-Infinity" + letter, "+NaN" + letter);
        }
    }

    private static void digitsAndPoint() {
        Bench.says("4 digits with a point perhaps (one digit at least)");
        reads("5", 5.0, 5.0f);
        reads("5.", 5.0, 5.0f);
        reads(".5", 0.5, 0.5f);
        reads("5.5", 5.5, 5.5f);
        reads("0", 0.0, 0.0f);
        reads("0.", 0.0, 0.0f);
        reads(".0", 0.0, 0.0f);
        reads("000", 0.0, 0.0f);
        reads("007", 7.0, 7.0f);
        reads("1.500000", 1.5, 1.5f);
        refused(".", "-.", "+.", "..", "5..", "..5", "5.5.", ".5.5", "5,5", "5_0", ".e1", ".f", "e1", "f", "+e1");
    }

    private static void exponents() {
        Bench.says("4 perhaps e or E, sign perhaps, digits");
        reads("1e0", 1.0, 1.0f);
        reads("1E0", 1.0, 1.0f);
        reads("1e1", 10.0, 10.0f);
        reads("1e+1", 10.0, 10.0f);
        reads("1e-1", 0.1, 0.1f);
        reads("1.e1", 10.0, 10.0f);
        reads(".1e1", 1.0, 1.0f);
        reads("1e0000000000000000000000001", 10.0, 10.0f);
        reads("1e-0", 1.0, 1.0f);
        refused("1e", "1E", "1e+", "1e-", "1e1.", "1e.1", "1e1e1", "1ee1", "1e++1", "1e+-1", "1e1+", "1ef", "1e+f", "1p1", "1e1p1", "1ea");
    }

    private static void sixteens() {
        Bench.says("4 or 0x (0X), digits of sixteen with a point perhaps, p or P, sign perhaps, digits");
        reads("0x1p0", 1.0, 1.0f);
        reads("0X1P0", 1.0, 1.0f);
        reads("0xfp0", 15.0, 15.0f);
        reads("0xFp0", 15.0, 15.0f);
        reads("0xap0", 10.0, 10.0f);
        reads("0x9.p0", 9.0, 9.0f);
        reads("0x.8p0", 0.5, 0.5f);
        reads("0x1.8p+1", 3.0, 3.0f);
        reads("0x1.8p-1", 0.75, 0.75f);
        reads("0x10p10", 16384.0, 16384.0f);
        reads("0x0p0", 0.0, 0.0f);
        reads("0x00.00p5", 0.0, 0.0f);
        reads("0x1p00000000000000000000000001", 2.0, 2.0f);
        reads("0xep0", 14.0, 14.0f);
        reads("0xfp0f", 15.0, 15.0f);
        reads("0xdp0d", 13.0, 13.0f);
        refused("0x", "0x1", "0x1.8", "0xp0", "0x.p0", "0x1p", "0x1p+", "0x1p-", "0x1pf", "0x1pa", "0x1p1.", "0x1p.1", "0x1p1p1",
            "0x1..8p1", "0x1.8.p1");
        refused("0xg.p1", "0xGp0", "x1p1", "1x1p1", "00x1p1", "0x0x1p1", "0x1e5", "0x1f", "0x1 p1", "0x@p0", "0x`p0", "0x:p0",
            "0x/p0", "0xInfinity", "0xNaN");
    }

    private static void letterBehind() {
        Bench.says("4 behind digits then perhaps f F d D");
        for (String letter : "f F d D".split(" ")) {
            reads("1" + letter, 1.0, 1.0f);
            reads("1." + letter, 1.0, 1.0f);
            reads(".5" + letter, 0.5, 0.5f);
            reads("1e1" + letter, 10.0, 10.0f);
            reads("0x1p1" + letter, 2.0, 2.0f);
            reads("0x.8p1" + letter + " ", 1.0, 1.0f);
            refused("1" + letter + "f", "1" + letter + "D", "1" + letter + "1", "1" + letter + "e1", "1e" + letter, "." + letter,
                letter, "+" + letter, "1 " + letter);
        }
        // the letter does not tell the width
        reads("0.1f", 0.1, 0.1f);
        reads("1e300f", 1E300, Float.POSITIVE_INFINITY);
        reads("0.1d", 0.1, 0.1f);
        refused("1l", "1L", "1g", "1h", "1c", "1C", "1G", "1E", "1s", "1%", "1$");
    }

    private static void everyByte() {
        Bench.says("4 READING: digits alone are digits");
        for (int b = 33; b < 128; b++) {
            String one = Character.toString((char) b);
            boolean digit = b >= '0' && b <= '9';
            boolean sixteen = digit || b >= 'a' && b <= 'f' || b >= 'A' && b <= 'F';
            boolean ends = "fFdD.".indexOf(b) >= 0;
            Bench.same("alone " + one, read(one, false).equals("IllegalArgumentException"), !digit);
            Bench.same("behind 1: " + one, read("1" + one, false).equals("IllegalArgumentException"), !digit && !ends);
            Bench.same("before 1: " + one, read(one + "1", false).equals("IllegalArgumentException"), !digit && "+-.".indexOf(b) < 0);
            Bench.same("behind 0x: " + one, read("0x" + one + "p0", true).equals("IllegalArgumentException"), !sixteen);
            Bench.same("behind 0x1: " + one, read("0x1" + one + "p0", true).equals("IllegalArgumentException"), !sixteen && b != '.');
            Bench.same("behind e: " + one, read("1e" + one, false).equals("IllegalArgumentException"), !digit);
        }
    }

    /** A text of exactly this value. */
    private static String exactly(BigDecimal value) {
        return value.unscaledValue() + "e" + -value.scale();
    }

    /** The value in the middle, and what is the least bit below and above it as far as the row has room. */
    private static String[] about(BigDecimal middle) {
        BigDecimal little = BigDecimal.ONE.scaleByPowerOfTen(-middle.scale() - 2);
        return new String[] {exactly(middle.subtract(little)), exactly(middle), exactly(middle.add(little))};
    }

    private static void middle(double low, double even, double high) {
        BigDecimal middle = new BigDecimal(low).add(new BigDecimal(high)).divide(BigDecimal.valueOf(2));
        String[] texts = about(middle);
        double[] dues = {low, even, high};
        for (int i = 0; i < 3; i++) {
            Bench.same(texts[i], read(texts[i], false), Long.toString(Double.doubleToRawLongBits(dues[i])));
            Bench.same("-" + texts[i], read("-" + texts[i], false), Long.toString(Double.doubleToRawLongBits(-dues[i])));
        }
    }

    private static void smallMiddle(float low, float even, float high) {
        BigDecimal middle = new BigDecimal(low).add(new BigDecimal(high)).divide(BigDecimal.valueOf(2));
        String[] texts = about(middle);
        float[] dues = {low, even, high};
        for (int i = 0; i < 3; i++) {
            Bench.same("small " + texts[i], read(texts[i], true), Integer.toString(Float.floatToRawIntBits(dues[i])));
            Bench.same("small -" + texts[i], read("-" + texts[i], true), Integer.toString(Float.floatToRawIntBits(-dues[i])));
        }
    }

    private static void nearest() {
        Bench.says("4 The nearest");
        reads("0.1", 0.1, 0.1f);
        reads("3.14159265358979323846264338327950288", Math.PI, (float) Math.PI);
        reads("9007199254740993.0000000001", 9007199254740994.0, 9007199254740992f);
        reads("9007199254740992.9999999999", 9007199254740992.0, 9007199254740992f);
        reads("1e23", 1E23, 1E23f);
        reads("0x1.00000000000008p0", 1.0, 1.0f);
        reads("0x1.000000000000080000000000000000000001p0", Math.nextUp(1.0), 1.0f);
        reads("0x1.00000000000007ffffffffffffffffffffffp0", 1.0, 1.0f);
        reads("0x1.0000000000000cp0", Math.nextUp(1.0), 1.0f);
        reads("0x1.00000000000004p0", 1.0, 1.0f);
        reads("0x1.0000018p0", 0x1.0000018p0, Math.nextUp(1.0f));
        reads("18014398509481985", 18014398509481984.0, 18014398509481984f);
        reads("18014398509481987", 18014398509481988.0, 18014398509481984f);
        reads("33554433", 33554433.0, 33554432f);
        reads("33554435", 33554435.0, 33554436f);
    }

    private static void evenOfTwo() {
        Bench.says("4 The nearest, of two the even one");
        reads("9007199254740993", 9007199254740992.0, 9007199254740992f);
        reads("9007199254740995", 9007199254740996.0, 9007199254740992f);
        reads("16777217", 16777217.0, 16777216f);
        reads("16777219", 16777219.0, 16777220f);
        reads("0x1.00000000000018p0", 0x1.0000000000002p0, 1.0f);
        reads("0x1.000001p0", 0x1.000001p0, 1.0f);
        reads("0x1.000003p0", 0x1.000003p0, 0x1.000004p0f);
        middle(1.0, 1.0, Math.nextUp(1.0));
        middle(Math.nextUp(1.0), 0x1.0000000000002p0, 0x1.0000000000002p0);
        middle(Math.nextDown(1.0), 1.0, 1.0);
        middle(Math.nextDown(2.0), 2.0, 2.0);
        middle(0x1p52, 0x1p52, 0x1p52 + 1);
        smallMiddle(1.0f, 1.0f, Math.nextUp(1.0f));
        smallMiddle(Math.nextUp(1.0f), 0x1.000004p0f, 0x1.000004p0f);
        smallMiddle(Math.nextDown(1.0f), 1.0f, 1.0f);
    }

    private static void beyondThem() {
        Bench.says("4 beyond them Infinity");
        BigInteger end = BigInteger.TWO.pow(1024).subtract(BigInteger.TWO.pow(970));
        BigInteger smallEnd = BigInteger.TWO.pow(128).subtract(BigInteger.TWO.pow(103));
        reads(end.toString(), Double.POSITIVE_INFINITY, Float.POSITIVE_INFINITY);
        reads(end.subtract(BigInteger.ONE).toString(), Double.MAX_VALUE, Float.POSITIVE_INFINITY);
        reads("-" + end, Double.NEGATIVE_INFINITY, Float.NEGATIVE_INFINITY);
        reads("-" + end.subtract(BigInteger.ONE) + ".999", -Double.MAX_VALUE, Float.NEGATIVE_INFINITY);
        reads(smallEnd.toString(), smallEnd.doubleValue(), Float.POSITIVE_INFINITY);
        reads(smallEnd.subtract(BigInteger.ONE).toString(), smallEnd.doubleValue(), Float.MAX_VALUE);
        reads("1.7976931348623157e308", Double.MAX_VALUE, Float.POSITIVE_INFINITY);
        reads("1.7976931348623159e308", Double.POSITIVE_INFINITY, Float.POSITIVE_INFINITY);
        reads("3.4028235e38", 3.4028235E38, Float.MAX_VALUE);
        reads("3.4028236e38", 3.4028236E38, Float.POSITIVE_INFINITY);
        reads("0x1.fffffffffffff7ffffffp1023", Double.MAX_VALUE, Float.POSITIVE_INFINITY);
        reads("0x1.fffffffffffff8p1023", Double.POSITIVE_INFINITY, Float.POSITIVE_INFINITY);
        reads("0x1p1023", 0x1p1023, Float.POSITIVE_INFINITY);
        reads("0x1p1024", Double.POSITIVE_INFINITY, Float.POSITIVE_INFINITY);
        reads("0x1.fffffeffffffffp127", 0x1.fffffeffffffffp127, Float.MAX_VALUE);
        reads("0x1.ffffffp127", 0x1.ffffffp127, Float.POSITIVE_INFINITY);
        reads("0x1.8p1024", Double.POSITIVE_INFINITY, Float.POSITIVE_INFINITY);
        reads("0x1.8p128", 0x1.8p128, Float.POSITIVE_INFINITY);
        reads("2e308", Double.POSITIVE_INFINITY, Float.POSITIVE_INFINITY);
        reads("5e38", 5E38, Float.POSITIVE_INFINITY);
        reads("1e308", 1E308, Float.POSITIVE_INFINITY);
        reads("1e309", Double.POSITIVE_INFINITY, Float.POSITIVE_INFINITY);
        reads("1e38", 1E38, 1E38f);
        reads("1e39", 1E39, Float.POSITIVE_INFINITY);
    }

    private static void tooSmall() {
        Bench.says("4 The nearest, of two the even one (0, of what is too small)");
        middle(0.0, 0.0, Double.MIN_VALUE);
        smallMiddle(0.0f, 0.0f, Float.MIN_VALUE);
        reads("0x1p-1074", Double.MIN_VALUE, 0.0f);
        reads("0x1p-1075", 0.0, 0.0f);
        reads("0x1.0000000000000000000001p-1075", Double.MIN_VALUE, 0.0f);
        reads("0x0.ffffffffffffffffffffp-1075", 0.0, 0.0f);
        reads("-0x1p-1075", -0.0, -0.0f);
        reads("0x1p-149", 0x1p-149, Float.MIN_VALUE);
        reads("0x1p-150", 0x1p-150, 0.0f);
        reads("0x1.0000000000000000000001p-150", 0x1p-150, Float.MIN_VALUE);
        reads("4.9e-324", Double.MIN_VALUE, 0.0f);
        reads("2e-324", 0.0, 0.0f);
        reads("3e-324", Double.MIN_VALUE, 0.0f);
        reads("1.4e-45", 1.4E-45, Float.MIN_VALUE);
        reads("7e-46", 7E-46, 0.0f);
        reads("8e-46", 8E-46, Float.MIN_VALUE);
        reads("1e-400", 0.0, 0.0f);
    }

    private static void subnormal() {
        Bench.says("4 The nearest, of two the even one (of subnormal ones)");
        middle(Double.MIN_VALUE, 2 * Double.MIN_VALUE, 2 * Double.MIN_VALUE);
        middle(2 * Double.MIN_VALUE, 2 * Double.MIN_VALUE, 3 * Double.MIN_VALUE);
        middle(LARGEST_SUBNORMAL, Double.MIN_NORMAL, Double.MIN_NORMAL);
        middle(Double.MIN_NORMAL, Double.MIN_NORMAL, Math.nextUp(Double.MIN_NORMAL));
        smallMiddle(Float.MIN_VALUE, 2 * Float.MIN_VALUE, 2 * Float.MIN_VALUE);
        smallMiddle(Math.nextDown(Float.MIN_NORMAL), Float.MIN_NORMAL, Float.MIN_NORMAL);
        smallMiddle(Float.MIN_NORMAL, Float.MIN_NORMAL, Math.nextUp(Float.MIN_NORMAL));
        reads("0x0.fffffffffffff8p-1022", Double.MIN_NORMAL, 0.0f);
        reads("0x0.fffffffffffff7p-1022", LARGEST_SUBNORMAL, 0.0f);
        reads("2.2250738585072012e-308", Double.MIN_NORMAL, 0.0f);
        reads("2.2250738585072011e-308", LARGEST_SUBNORMAL, 0.0f);
    }

    private static void smallRoundedOnce() {
        Bench.says("4 The nearest (of 32 bits from the text itself, not from one of 64)");
        reads("1.000000059604644775390625", 0x1.000001p0, 1.0f);
        reads("1.00000005960464477539062500000000000000001", 0x1.000001p0, 0x1.000002p0f);
        reads("1.00000005960464477539062499999999999999999", 0x1.000001p0, 1.0f);
        reads("0x1.00000100000000001p0", 0x1.000001p0, 0x1.000002p0f);
        reads("0x1.000002ffffffffffffp0", 0x1.000003p0, 0x1.000002p0f);
    }

    private static void longTexts() {
        Bench.says("4 READING, of a ROW of up to 800 bytes");
        reads("1" + "0".repeat(308) + "." + "0".repeat(490), 1E308, Float.POSITIVE_INFINITY);
        reads("0." + "0".repeat(307) + "1" + "0".repeat(490), 1E-308, 0.0f);
        reads("1." + "0".repeat(797) + "1", 1.0, 1.0f);
        reads("9007199254740993." + "0".repeat(782) + "1", 9007199254740994.0, 9007199254740992f);
        reads("0x1.00000000000008" + "0".repeat(779) + "1p0", Math.nextUp(1.0), 1.0f);
        reads("9".repeat(800), Double.POSITIVE_INFINITY, Float.POSITIVE_INFINITY);
        reads("0." + "9".repeat(798), 1.0, 1.0f);
        reads("1" + "0".repeat(793) + "e-793", 1.0, 1.0f);
        reads("." + "0".repeat(793) + "1e794", 1.0, 1.0f);
        reads("0x1" + "0".repeat(790) + "p-3160", 1.0, 1.0f);
        reads("0x." + "0".repeat(789) + "1p3160", 1.0, 1.0f);
        reads("0".repeat(800), 0.0, 0.0f);
    }

    private static void farExponents() {
        Bench.says("4 READING, of exponents beyond all numbers");
        for (String far : new String[] {"400", "99999", "2147483647", "2147483648", "4294967296", "9223372036854775808", "9".repeat(700)}) {
            reads("1e" + far, Double.POSITIVE_INFINITY, Float.POSITIVE_INFINITY);
            reads("-1e" + far, Double.NEGATIVE_INFINITY, Float.NEGATIVE_INFINITY);
            reads("1e-" + far, 0.0, 0.0f);
            reads("-1e-" + far, -0.0, -0.0f);
            reads("0e" + far, 0.0, 0.0f);
            reads("-0.0e-" + far, -0.0, -0.0f);
            reads("0x1p" + far + "0", Double.POSITIVE_INFINITY, Float.POSITIVE_INFINITY);
            reads("0x1p-" + far + "0", 0.0, 0.0f);
            reads("-0x0p" + far, -0.0, -0.0f);
        }
    }
}
