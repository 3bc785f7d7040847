import java.math.BigDecimal;
import java.math.BigInteger;
import java.math.MathContext;
import java.math.RoundingMode;
import java.util.Locale;
import java.util.Random;

/** Promise 8: reals by e, f, g, a and s, against exact decimals. */
public final class RealsTest {
    private static final double[] EDGES = {
        0.0, -0.0, 1.0, -1.0, 0.5, 1.5, 2.5, 0.1, 0.001, 0.0009999999999999999, 9999999.0, 1.0E7, 9999999.999999998, 1.0E23, 2.0E23,
        9.0E-4, 9.9995E-5, 0.0001, 9.99995E-5, 9.9999949E-5, 999999.5, 999999.4, 999999.49999999, 1234567.0, 0.99999999, 9.5, 99.5, 0.05, 0.95,
        Double.MIN_VALUE, -Double.MIN_VALUE, Double.MAX_VALUE, Double.MIN_NORMAL, 2.2250738585072011E-308, 4.9E-323, 1.0E-5, 123456.789,
        0.125, 0.375, 1.0E15, 1.0E16, 1.0E17, 9007199254740993.0, 1.8014398509481984E16, 4.35, 2.675, 1.005, 5.0E-324, 1.2E-322, 1.0E22,
        9.999999999999999E22, 8.41E21, 2.0E-3, 8.5E10, 3.0E-323, 1.7976931348623157E308, 0.3, 2.0 / 3, 1.0 / 3, 1.0E-300, 1.0E300,
    };
    private static final float[] SMALL_EDGES = {
        0.0f, -0.0f, 1.0f, -1.5f, 0.1f, 0.3f, 1.0E7f, 9999999.0f, 0.001f, 9.999999E-4f, Float.MIN_VALUE, Float.MAX_VALUE, Float.MIN_NORMAL,
        1.17549421E-38f, 1.0E10f, 3.3554432E7f, 8.589934592E9f, 2.0E-3f, 1.0E23f, 1.1754944E-38f, 1.4E-45f, 2.8E-45f, 16777216f, 33554432f,
        67108864f, 4.2949673E9f, 1.23456E12f,
    };

    public static void main(String[] args) {
        written();
        specials();
        byDecimals();
        sixteens();
        shortest();
        Bench.end();
    }

    private static void written() {
        Bench.writes("1.000000e+00 1.5e-300 2e+05 2.e+05", "%e %.1e %.0e %#.0e", 1.0, 1.5E-300, 150000.0, 150000.0);
        Bench.writes("0.000000 0. 0 0.000000e+00 0.00000 0", "%f %<#.0f %<.0f %<e %<g %<.0g", 0.0);
        Bench.writes("-0.000000 (0.0) -0.00000 -0.0e+00 -0x0.0p0 -0.0", "%f %<(.1f %<g %<.1e %<a %<s", -0.0);
        Bench.writes("0.5 3 -3 1 0", "%.1f %.0f %.0f %.0f %.0f", 0.45000000000000001, 2.5, -2.5, 0.5, 0.4999999999999999);
        Bench.writes("-0.00 (0.00)", "%.2f %<(.2f", -0.001);
        Bench.writes("1,234,567.891 -1,234.5", "%,.3f %,.1f", 1234567.8909, -1234.5);
        Bench.writes("0001,234.5 -0001,234.5 (001,234.5)", "%,010.1f %,011.1f %(,011.1f", 1234.5, -1234.5, -1234.5);
        Bench.writes("+1.0| 1.0|+0001.0|   1.0|1.0   |", "%+.1f|% .1f|%+07.1f|%6.1f|%-6.1f|", 1.0, 1.0, 1.0, 1.0, 1.0);
        Bench.writes("1.0E+10 1.00000E+10 1.5E300 0X1.8P1 NAN", "%.1E %G %S %A %E", 1E10, 1E10, 1.5E300, 3.0, Double.NaN);
        Bench.writes("0.000100000 9.99990e-05 100000. 1.00000e+06", "%g %g %#.0f %g", 1E-4, 9.9999E-5, 1E5, 999999.5);
        Bench.writes("0.1 1e+01 1e-05 1 1,000.00", "%.1g %.1g %.0g %.0g %,g", 0.1, 10.0, 1E-5, 1.0, 1000.0);
        Bench.writes("0x1.0p0 0x1.8p1 0x1.0p-1022 0x0.0000000000001p-1022 0x1.fffffffffffffp1023", "%a %a %a %a %a",
            1.0, 3.0, Double.MIN_NORMAL, Double.MIN_VALUE, Double.MAX_VALUE);
        Bench.writes("0x1.0p4 0x1.0p4 0x1.000p1024 0x1.8p3 0x1.ap3", "%.1a %.0a %.3a %.1a %.1a", 15.75, 15.75, Double.MAX_VALUE, 12.25, 12.75);
        Bench.writes("0x1.0p-1022 0x0.0p-1022 0x0.8p-1022", "%.1a %.1a %.1a", 2.2250738585072009E-308, Double.MIN_VALUE, 1.1125369292536007E-308);
        Bench.writes("0x1.000p0 0x0.000p0 0x1.80000000000000000000p0", "%.3a %.3a %.20a", 1.0, 0.0, 1.5);
        Bench.writes("0x0001.0p0|-0x01.0p0|+0x1.0p0| 0x1.0p0| 0x1.0p0|0x1.0p0 |0X001.0P0", "%010a|%09a|%+a|% a|%8a|%-8a|%#09A",
            1.0, -1.0, 1.0, 1.0, 1.0, 1.0, 1.0);
        Bench.writes("0x1.0p-149 0x1.99999ap-4", "%a %a", Float.MIN_VALUE, 0.1f);
        Bench.writes("0.1 0.10000000149011612 0.100000001490116119384765625", "%s %s %.27f", 0.1f, (double) 0.1f, 0.1f);
        Bench.writes("4.9E-324 1.4E-45 1.0E23 2.0E-4 2.0E23", "%s %s %s %s %s", Double.MIN_VALUE, Float.MIN_VALUE, 1E23, 0.0002, 2E23);
        Bench.writes("1.0E7 9999999.0 0.001 9.99E-4 100.0 12.0", "%s %s %s %s %s %s", 1E7, 9999999.0, 0.001, 9.99E-4, 100.0, 12.0);
        Bench.writes("1.|  1.2|1.2  |", "%.2s|%5.3s|%-5.3s|", 1.25, 1.25, 1.25);
        Bench.writes("0." + "0".repeat(1100), "%.1100f", 0.0);
    }

    private static void specials() {
        for (Object nan : new Object[] {Double.NaN, Float.NaN, Double.longBitsToDouble(-1L)}) {
            Bench.writes("NaN|NaN|NaN|NaN|   NaN|NaN   |   NaN|NaN|NAN", "%f|%<+f|%<(e|%<g|%<6f|%<-6f|%<06f|%<a|%<E", nan);
            Bench.writes("NaN NAN", "%s %<S", nan);
        }
        Bench.writes("Infinity|+Infinity| Infinity|  Infinity|Infinity|INFINITY|Infinity", "%f|%<+f|%<- 9f|%<010f|%<(g|%<A|%<s", Double.POSITIVE_INFINITY);
        Bench.writes("-Infinity|(Infinity)|-Infinity|  -Infinity|-Infinity|-INFINITY", "%f|%<(f|%<+f|%<011e|%<s|%<G", Float.NEGATIVE_INFINITY);
        Bench.writes("In|-In", "%.2s|%.3s", Double.POSITIVE_INFINITY, Double.NEGATIVE_INFINITY);
    }

    private static double someDouble(Random random, int i) {
        switch (i % 5) {
            case 0: return Double.longBitsToDouble(random.nextLong());
            case 1: return (random.nextInt(2000001) - 1000000) / 1000.0;
            case 2: return random.nextInt(100000) / 8.0 * Math.pow(10, random.nextInt(12) - 6);
            case 3: return Double.longBitsToDouble(random.nextLong() & 0x800FFFFFFFFFFFFFL | (long) (1023 - 20 + random.nextInt(60)) << 52);
            default: return Math.pow(2, random.nextInt(2098) - 1074);
        }
    }

    private static void byDecimals() {
        Random random = new Random(3);
        for (int i = 0; i < EDGES.length + 3000; i++) {
            double d = i < EDGES.length ? EDGES[i] : someDouble(random, i);
            if (!Double.isNaN(d) && !Double.isInfinite(d)) {
                int precision = i % 11 == 0 ? random.nextInt(1101) : random.nextInt(20);
                decimals(d, precision, d);
                decimals(d, -1, d);
            }
        }
        for (int i = 0; i < SMALL_EDGES.length + 1000; i++) {
            float f = i < SMALL_EDGES.length ? SMALL_EDGES[i] : Float.intBitsToFloat(random.nextInt());
            if (!Float.isNaN(f) && !Float.isInfinite(f)) {
                decimals(f, random.nextInt(60), f);
            }
        }
    }

    private static void decimals(Object argument, int precision, double value) {
        String sign = 1 / value < 0 || value < 0 ? "-" : "";
        BigDecimal exact = new BigDecimal(value).abs();
        int p = precision < 0 ? 6 : precision;
        String spec = precision < 0 ? "" : "." + precision;
        Bench.writes(sign + scientific(exact, p), "%" + spec + "e", argument);
        Bench.writes(sign + exact.setScale(p, RoundingMode.HALF_UP).toPlainString(), "%" + spec + "f", argument);
        Bench.writes(sign + general(exact, Math.max(p, 1)), "%" + spec + "g", argument);
        Bench.writes(sign + commas(exact.setScale(p, RoundingMode.HALF_UP).toPlainString()), "%," + spec + "f", argument);
    }

    private static String commas(String plain) {
        int point = plain.indexOf('.') < 0 ? plain.length() : plain.indexOf('.');
        StringBuilder b = new StringBuilder(plain);
        for (int i = point - 3; i > 0; i -= 3) {
            b.insert(i, ',');
        }
        return b.toString();
    }

    private static String scientific(BigDecimal exact, int p) {
        BigDecimal rounded = exact.round(new MathContext(p + 1, RoundingMode.HALF_UP));
        int power = exact.signum() == 0 ? 0 : rounded.precision() - rounded.scale() - 1;
        String digits = rounded.movePointLeft(power).setScale(p, RoundingMode.UNNECESSARY).toPlainString();
        return digits + (power < 0 ? "e-" : "e+") + (Math.abs(power) < 10 ? "0" : "") + Math.abs(power);
    }

    private static String general(BigDecimal exact, int p) {
        BigDecimal rounded = exact.round(new MathContext(p, RoundingMode.HALF_UP));
        if (rounded.signum() == 0) {
            return rounded.setScale(p - 1).toPlainString();
        }
        boolean plain = rounded.compareTo(new BigDecimal("0.0001")) >= 0 && rounded.compareTo(BigDecimal.TEN.pow(p)) < 0;
        int power = rounded.precision() - rounded.scale() - 1;
        return plain ? rounded.setScale(p - 1 - power, RoundingMode.UNNECESSARY).toPlainString() : scientific(exact, p - 1);
    }

    private static void sixteens() {
        Random random = new Random(5);
        for (int i = 0; i < EDGES.length + 3000; i++) {
            double d = i < EDGES.length ? EDGES[i] : someDouble(random, i);
            if (Double.isNaN(d) || Double.isInfinite(d)) {
                continue;
            }
            Bench.writes(Double.toHexString(d), "%a", d);
            int precision = random.nextInt(16);
            if (Math.abs(d) >= Double.MIN_NORMAL || d == 0) {
                Bench.writes(String.format(Locale.ROOT, "%." + precision + "a", d), "%." + precision + "a", d);
            } else {
                Bench.writes(subnormal(d, Math.max(precision, 1)), "%." + precision + "a", d);
            }
            float f = (float) d;
            if (!Float.isInfinite(f)) {
                Bench.writes(Double.toHexString(f), "%a", f);
            }
        }
    }

    private static String subnormal(double d, int digits) {
        BigInteger bits = BigInteger.valueOf(Double.doubleToRawLongBits(Math.abs(d)));
        BigDecimal sixteens = new BigDecimal(bits).divide(new BigDecimal(BigInteger.TWO.pow(52)));
        BigDecimal scale = new BigDecimal(BigInteger.valueOf(16).pow(digits));
        BigInteger rounded = sixteens.multiply(scale).setScale(0, RoundingMode.HALF_EVEN).toBigInteger();
        String text = rounded.toString(16);
        text = "0".repeat(Math.max(0, digits + 1 - text.length())) + text;
        return (d < 0 ? "-0x" : "0x") + text.charAt(0) + "." + text.substring(1) + "p-1022";
    }

    private static void shortest() {
        Random random = new Random(9);
        for (int i = 0; i < EDGES.length + 8000; i++) {
            double d = i < EDGES.length ? EDGES[i] : someDouble(random, i);
            if (d != 0 && !Double.isNaN(d) && !Double.isInfinite(d)) {
                Bench.writes(shortest(new BigDecimal(d), d, false), "%s", d);
            }
        }
        for (int i = 0; i < SMALL_EDGES.length + 8000; i++) {
            float f = i < SMALL_EDGES.length ? SMALL_EDGES[i] : Float.intBitsToFloat(random.nextInt());
            if (f != 0 && !Float.isNaN(f) && !Float.isInfinite(f)) {
                Bench.writes(shortest(new BigDecimal(f), f, true), "%s", f);
            }
        }
        exactHalves(random);
        for (int power = -149; power < 128; power++) {
            float f = (float) Math.pow(2, power);
            Bench.writes(shortest(new BigDecimal(f), f, true), "%s", f);
        }
        for (int power = -1074; power < 1024; power++) {
            double d = Math.pow(2, power);
            Bench.writes(shortest(new BigDecimal(d), d, false), "%s", d);
        }
    }

    /** Short decimals at the very middle of two reals read as the even one alone. */
    private static void exactHalves(Random random) {
        for (int power = 5; power <= 23; power++) {
            BigInteger fives = BigInteger.valueOf(5).pow(power);
            BigInteger least = BigInteger.TWO.pow(53).divide(fives).add(BigInteger.ONE);
            for (int i = 0; i < 40; i++) {
                BigInteger odd = least.add(new BigInteger(least.bitLength() + 1, random).mod(least)).setBit(0);
                BigDecimal half = new BigDecimal(odd.multiply(BigInteger.TEN.pow(power)).shiftLeft(random.nextInt(6)));
                double near = half.doubleValue();
                for (double d : new double[] {near, Math.nextUp(near), Math.nextDown(near)}) {
                    Bench.writes(shortest(new BigDecimal(d), d, false), "%s", d);
                }
            }
        }
    }

    private static boolean readsBack(BigDecimal decimal, double value, boolean small) {
        return small ? Float.parseFloat(decimal.toString()) == (float) value : Double.parseDouble(decimal.toString()) == value;
    }

    private static String shortest(BigDecimal signed, double value, boolean small) {
        BigDecimal exact = signed.abs();
        for (int digits = 2; digits <= 17; digits++) {
            int scale = exact.scale() - exact.precision() + digits;
            BigDecimal below = exact.setScale(scale, RoundingMode.DOWN);
            BigDecimal above = exact.setScale(scale, RoundingMode.UP);
            boolean belowReads = readsBack(below, Math.abs(value), small);
            boolean aboveReads = readsBack(above, Math.abs(value), small);
            if (belowReads || aboveReads) {
                int order = exact.subtract(below).compareTo(above.subtract(exact));
                boolean even = !below.unscaledValue().testBit(0);
                boolean takeBelow = belowReads && (!aboveReads || order < 0 || order == 0 && even);
                return (value < 0 ? "-" : "") + laidOut(takeBelow ? below : above);
            }
        }
        return "none";
    }

    private static String laidOut(BigDecimal decimal) {
        BigDecimal stripped = decimal.stripTrailingZeros();
        if (decimal.compareTo(new BigDecimal("0.001")) >= 0 && decimal.compareTo(BigDecimal.TEN.pow(7)) < 0) {
            return stripped.setScale(Math.max(stripped.scale(), 1)).toPlainString();
        }
        int power = stripped.precision() - stripped.scale() - 1;
        BigDecimal digits = stripped.movePointLeft(power);
        return digits.setScale(Math.max(digits.scale(), 1)).toPlainString() + "E" + power;
    }
}
