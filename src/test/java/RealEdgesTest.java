import java.math.BigDecimal;
import java.math.MathContext;
import java.math.RoundingMode;

/** The boundary cases of reals that are written: e, f, g, a of paragraph 2 of the terms, and paragraph 3, sentence by sentence. */
public final class RealEdgesTest {
    private static final double LARGEST_SUBNORMAL = Double.longBitsToDouble(0xFFFFFFFFFFFFFL);

    public static void main(String[] args) {
        scientific();
        scientificExponent();
        fixed();
        roundedFromTheExactValue();
        aHalfAwayFrom0();
        pointWithNoDigits();
        generalPrecision();
        generalLowEnd();
        generalHighEnd();
        generalOf0();
        signsAndZeros();
        notANumber();
        infinity();
        belowZero();
        sixteens();
        sixteensSubnormal();
        sixteensRounded();
        sixteensLongAndSmall();
        specialsByS();
        shortest();
        shortestLayout();
        shortestOfTwo();
        Bench.end();
    }

    private static void scientific() {
        Bench.says("e: one digit, point, as many as the precision (6 without) says, e, sign, two digits of the exponent at least");
        Bench.writes("1.000000e+00|1e+00|1.0e+00|1.00e+00", "%1$e|%1$.0e|%1$.1e|%1$.2e", 1.0);
        Bench.writes("0.000000e+00|0e+00|0.0e+00", "%1$e|%1$.0e|%1$.1e", 0.0);
        Bench.writes("1." + "0".repeat(1100) + "e+00", "%.1100e", 1.0);
        Bench.writes("9.999999e+00|1.000000e+01|1.000000e+01", "%e|%e|%e", 9.9999994, 9.9999996, 10.0);
        Bench.writes("1.234568e+08|-1.234568e-08", "%e|%e", 123456789.0, -0.0000000123456789);
    }

    private static void scientificExponent() {
        Bench.says("e: sign, two digits of the exponent at least");
        Bench.writes("1e+00|1e+09|1e+10|1e+99|1e+100|1e+308", "%.0e|%.0e|%.0e|%.0e|%.0e|%.0e", 1.0, 1E9, 1E10, 1E99, 1E100, 1E308);
        Bench.writes("1e-01|1e-09|1e-10|1e-99|1e-100|1e-308", "%.0e|%.0e|%.0e|%.0e|%.0e|%.0e", 0.1, 1E-9, 1E-10, 1E-99, 1E-100, 1E-308);
        Bench.writes("1e+10|1e+100|1e-09|1e-99|1e+00", "%.0e|%.0e|%.0e|%.0e|%.0e", 9.6E9, 9.6E99, 9.6E-10, 9.6E-100, 0.96);
        Bench.writes("4.940656e-324|1.797693e+308|2.225074e-308|5e-324|2e+308", "%1$e|%2$e|%3$e|%1$.0e|%2$.0e", Double.MIN_VALUE,
            Double.MAX_VALUE, Double.MIN_NORMAL);
        Bench.writes("1.401298e-45|3.402823e+38|1.175494e-38", "%e|%e|%e", Float.MIN_VALUE, Float.MAX_VALUE, Float.MIN_NORMAL);
    }

    private static void fixed() {
        Bench.says("f: the point and digits likewise");
        Bench.writes("1.000000|1|1.0|1.00", "%1$f|%1$.0f|%1$.1f|%1$.2f", 1.0);
        Bench.writes("0.000000|0|0.0", "%1$f|%1$.0f|%1$.1f", 0.0);
        Bench.writes("0.000001|0.000000|0.0000005|0|0.000001", "%f|%f|%.7f|%.0f|%f", 0.000001, 0.0000004, 0.0000005, 0.4, 0.00000051);
        Bench.writes(new BigDecimal(Double.MAX_VALUE).toPlainString() + ".00", "%.2f", Double.MAX_VALUE);
        Bench.writes(new BigDecimal(Double.MIN_VALUE).setScale(1100).toPlainString(), "%.1100f", Double.MIN_VALUE);
        Bench.writes("0." + "0".repeat(322), "%.322f", Double.MIN_VALUE);
        Bench.writes("0." + "0".repeat(323) + "5", "%.324f", Double.MIN_VALUE);
        Bench.writes("0." + "0".repeat(323), "%.323f", Double.MIN_VALUE);
        Bench.writes("0." + "0".repeat(322) + "1", "%.323f", 2 * Double.MIN_VALUE);
        Bench.writes(new BigDecimal(Float.MAX_VALUE).toPlainString() + "|340282346638528859811704183484516925440", "%1$.0f|%1$.0f",
            Float.MAX_VALUE);
        Bench.writes("9|10|99|100|0|1", "%.0f|%.0f|%.0f|%.0f|%.0f|%.0f", 9.49, 9.51, 99.49, 99.51, 0.49, 0.51);
    }

    private static void roundedFromTheExactValue() {
        Bench.says("Rounded from the exact value");
        Bench.writes("1.00|2.67|0.1|0.3|0.5|4.35|4.3", "%.2f|%.2f|%.1f|%.1f|%.1f|%.2f|%.1f", 1.005, 2.675, 0.15, 0.35, 0.45, 4.35, 4.35);
        Bench.writes("0.1000000000000000055511151231257827021181583404541015625", "%.55f", 0.1);
        Bench.writes("0.100000001490116119384765625", "%.27f", 0.1f);
        Bench.writes("99999999999999991611392|9.9999999999999991611392e+22|1e+23", "%1$.0f|%1$.22e|%1$.0e", 1E23);
        Bench.writes("0.9|0.90|1.0|9.0|9.9", "%.1f|%.2f|%.1f|%.1f|%.1f", 0.88, 0.8999, 0.96, 8.96, 9.86);
        Bench.writes("0.1|0.10000000000000001|0.100000000000000006", "%1$.1f|%1$.17f|%1$.18f", 0.1);
        Bench.writes("1.0e+00|1.01e+00|1.005e+00|1.00e+00", "%.1e|%.2e|%.3e|%.2e", 1.005, 1.0050000000000003, 1.005, 1.005);
    }

    private static void aHalfAwayFrom0() {
        Bench.says("a half away from 0");
        Bench.writes("1|2|3|4|-1|-2|-3|-4", "%.0f|%.0f|%.0f|%.0f|%.0f|%.0f|%.0f|%.0f", 0.5, 1.5, 2.5, 3.5, -0.5, -1.5, -2.5, -3.5);
        Bench.writes("0.13|0.38|0.63|0.88|-0.13|-0.38", "%.2f|%.2f|%.2f|%.2f|%.2f|%.2f", 0.125, 0.375, 0.625, 0.875, -0.125, -0.375);
        Bench.writes("2e+00|3e+00|-3e+00|1.3e-01|3e-01", "%.0e|%.0e|%.0e|%.1e|%.0e", 1.5, 2.5, -2.5, 0.125, 0.25);
        Bench.writes("3|0.1|0.13|-0.13|3", "%.1g|%.1g|%.2g|%.2g|%.0g", 2.5, 0.125, 0.125, -0.125, 2.5);
        Bench.writes("10|1e+01|1e+01|1,000", "%.0f|%.0e|%.1g|%,.0f", 9.5, 9.5, 9.5, 999.5);
        Bench.writes("0|-0|1|-1", "%.0f|%.0f|%.0f|%.0f", Math.nextDown(0.5), -Math.nextDown(0.5), Math.nextUp(0.5), -Math.nextUp(0.5));
        Bench.writes("2|3|3", "%.0f|%.0f|%.0f", Math.nextDown(2.5), 2.5, Math.nextUp(2.5));
    }

    private static void pointWithNoDigits() {
        Bench.says("# a point even with no digits behind");
        Bench.writes("1.|1|1.e+00|1e+00|1.0|1.0e+00", "%1$#.0f|%1$.0f|%1$#.0e|%1$.0e|%1$#.1f|%1$#.1e", 1.0);
        Bench.writes("0.|-0.|0.e+00", "%1$#.0f|%2$#.0f|%1$#.0e", 0.0, -0.0);
        Bench.writes("  1.|001.|1.  |(1.)|1,000.", "%1$#4.0f|%1$#04.0f|%1$-#4.0f|%2$#(.0f|%3$#,.0f", 1.0, -1.0, 1000.0);
    }

    private static void generalPrecision() {
        Bench.says("g: rounded to as many digits as the precision (6; 0 is 1)");
        Bench.writes("1.00000|1|1|1.0|1.00", "%1$g|%1$.0g|%1$.1g|%1$.2g|%1$.3g", 1.0);
        Bench.writes("123456|123457|1e+05|1.2e+05|123456.7890", "%g|%g|%.0g|%.2g|%.10g", 123456.0, 123456.789, 123456.0, 123456.0,
            123456.789);
        Bench.writes("0.500000|0.0500000|0.5|0.05", "%g|%g|%.1g|%.0g", 0.5, 0.05, 0.5, 0.05);
        Bench.writes("1." + "0".repeat(1099), "%.1100g", 1.0);
        BigDecimal large = new BigDecimal(Double.MAX_VALUE);
        Bench.writes(large.setScale(1100 - 309).toPlainString(), "%.1100g", Double.MAX_VALUE);
        Bench.writes(large.toPlainString(), "%.309g", Double.MAX_VALUE);
        BigDecimal shorter = large.round(new MathContext(308, RoundingMode.HALF_UP)).movePointLeft(308);
        Bench.writes(shorter.setScale(307).toPlainString() + "e+308", "%.308g", Double.MAX_VALUE);
    }

    private static void generalLowEnd() {
        Bench.says("g: if that is at least 10 to the -4, as f with so many digits in all, else as e with one less behind the point");
        Bench.writes("0.000100000|0.0001|0.0001|0.00010", "%1$g|%1$.0g|%1$.1g|%1$.2g", 0.0001);
        Bench.writes("9.99990e-05|0.0001", "%1$g|%1$.1g", 0.000099999);
        Bench.writes("9.99999e-05|0.000100000|9.9999949e-05", "%1$g|%2$g|%1$.8g", 0.000099999949, 0.000099999951);
        Bench.writes("9e-05|0.0001|1e-05|-0.0001|-9e-05", "%.1g|%.1g|%.1g|%.1g|%.1g", 0.0000949, 0.0000951, 0.00001, -0.0000951,
            -0.0000949);
        Bench.writes("9.9999999999999991e-05", "%.17g", Math.nextDown(0.0001));
        Bench.writes("0.000100000", "%g", Math.nextDown(0.0001));
        Bench.writes("4.94066e-324|2.22507e-308", "%g|%g", Double.MIN_VALUE, Double.MIN_NORMAL);
    }

    private static void generalHighEnd() {
        Bench.says("g: if that is below 10 to the precision, as f with so many digits in all, else as e with one less behind the point");
        Bench.writes("99999.0|100000|999999|1.00000e+06", "%g|%g|%g|%g", 99999.0, 100000.0, 999999.0, 1000000.0);
        Bench.writes("999999|1.00000e+06|999999.5|1000000", "%1$g|%2$g|%2$.7g|%3$.7g", 999999.25, 999999.5, 999999.96);
        Bench.writes("9|1e+01|9.9|10|99|1.0e+02", "%.1g|%.1g|%.2g|%.2g|%.2g|%.2g", 9.4, 9.6, 9.94, 9.96, 99.4, 99.6);
        Bench.writes("1e+01|1e+01|10|1.0e+02", "%.0g|%.1g|%.2g|%.2g", 10.0, 10.0, 10.0, 100.0);
        Bench.writes("1.79769e+308|-1.00000e+06", "%g|%g", Double.MAX_VALUE, -1000000.0);
    }

    private static void generalOf0() {
        Bench.says("g: if that is 0, as f with so many digits in all");
        Bench.writes("0.00000|0|0|0.0|0.00", "%1$g|%1$.0g|%1$.1g|%1$.2g|%1$.3g", 0.0);
        Bench.writes("-0.00000|-0|(0.0)", "%1$g|%1$.0g|%1$(.2g", -0.0);
        Bench.writes("0." + "0".repeat(1099), "%.1100g", 0.0f);
    }

    private static void signsAndZeros() {
        Bench.says("+ a + before what is not below 0, blank a blank, ( parentheses instead of - (of reals)");
        for (String conversion : "e f g".split(" ")) {
            String one = conversion.equals("e") ? "1.0e+00" : conversion.equals("f") ? "1.0" : "1";
            String format = "%1$+.1C|%1$ .1C|%1$(.1C|%2$+.1C|%2$ .1C|%2$(.1C".replace("C", conversion);
            Bench.writes("+" + one + "| " + one + "|" + one + "|-" + one + "|-" + one + "|(" + one + ")", format, 1.0, -1.0);
        }
        Bench.writes("+0x1.0p0| 0x1.0p0|-0x1.0p0|-0x1.0p0", "%1$+a|%1$ a|%2$+a|%2$ a", 1.0, -1.0);
        Bench.writes("+0.0| 0.0|0.0|+0x0.0p0", "%1$+.1f|%1$ .1f|%1$(.1f|%1$+a", 0.0);
        Bench.says("0 zeros behind sign, (, 0x up to the WIDTH (of reals)");
        Bench.writes("1.5|1.5|01.5|001.5", "%1$02.1f|%1$03.1f|%1$04.1f|%1$05.1f", 1.5);
        Bench.writes("-1.5|-1.5|-01.5|(1.5)|(1.5)|(01.5)", "%1$03.1f|%1$04.1f|%1$05.1f|%1$(04.1f|%1$(05.1f|%1$(06.1f", -1.5);
        Bench.writes("+01.5| 01.5|01.5e+00|01.5", "%1$+05.1f|%1$ 05.1f|%1$08.1e|%1$04.2g", 1.5);
        Bench.writes("0x1.8p0|0x1.8p0|0x01.8p0|-0x01.8p0|+0x01.8p0|0X001.8P0", "%1$06a|%1$07a|%1$08a|%2$09a|%1$+09a|%1$09A", 1.5, -1.5);
        Bench.writes("0x01.80p0|0x01.80000p0", "%1$09.2a|%1$012.5a", 1.5);
    }

    private static void notANumber() {
        Bench.says("NaN (without sign) as such, but not filled with 0");
        for (Object nan : new Object[] {Double.NaN, Double.longBitsToDouble(-1L), Double.longBitsToDouble(0x7FF0000000000001L),
            Float.NaN, Float.intBitsToFloat(-1)}) {
            for (String c : "e f g".split(" ")) {
                Bench.writes("NaN|NaN|NaN|NaN", "%1$" + c + "|%1$+" + c + "|%1$ " + c + "|%1$(" + c, nan);
                Bench.writes("NaN|NaN| NaN|NaN | NaN|  NaN",
                    "%1$2" + c + "|%1$3" + c + "|%1$4" + c + "|%1$-4" + c + "|%1$04" + c + "|%1$+05" + c, nan);
                Bench.writes("NaN|NaN", "%1$.0" + c + "|%1$.1" + c, nan);
            }
            Bench.writes("NaN|NaN|NaN| NaN|NaN", "%1$a|%1$+a|%1$ a|%1$04a|%1$.1a", nan);
            Bench.writes("NaN|NAN|NAN|NAN|NAN", "%1$s|%1$S|%1$E|%1$G|%1$A", nan);
        }
    }

    private static void infinity() {
        Bench.says("Infinity as such, with signs and parentheses, but not filled with 0");
        for (Object large : new Object[] {Double.POSITIVE_INFINITY, Float.POSITIVE_INFINITY}) {
            for (String c : "e f g".split(" ")) {
                Bench.writes("Infinity|+Infinity| Infinity|Infinity", "%1$" + c + "|%1$+" + c + "|%1$ " + c + "|%1$(" + c, large);
                Bench.writes("Infinity| Infinity|Infinity | Infinity|  +Infinity",
                    "%1$8" + c + "|%1$9" + c + "|%1$-9" + c + "|%1$09" + c + "|%1$+011" + c, large);
                Bench.writes("Infinity|Infinity", "%1$.0" + c + "|%1$.1" + c, large);
            }
            Bench.writes("Infinity|+Infinity| Infinity|  Infinity|Infinity", "%1$a|%1$+a|%1$ a|%1$010a|%1$.1a", large);
        }
        for (Object low : new Object[] {Double.NEGATIVE_INFINITY, Float.NEGATIVE_INFINITY}) {
            for (String c : "e f g".split(" ")) {
                Bench.writes("-Infinity|-Infinity|-Infinity|(Infinity)", "%1$" + c + "|%1$+" + c + "|%1$ " + c + "|%1$(" + c, low);
                Bench.writes("-Infinity| -Infinity| -Infinity| (Infinity)",
                    "%1$9" + c + "|%1$10" + c + "|%1$010" + c + "|%1$(011" + c, low);
            }
            Bench.writes("-Infinity|  -Infinity|-INFINITY", "%1$a|%1$011a|%1$A", low);
        }
    }

    private static void belowZero() {
        Bench.says("-0.0 has a sign");
        for (Object zero : new Object[] {-0.0, -0.0f}) {
            Bench.writes("-0.000000|-0.000000e+00|-0.00000|-0x0.0p0|-0.0", "%1$f|%1$e|%1$g|%1$a|%1$s", zero);
            Bench.writes("(0.0)|-0.0|-0.0|-00.0|(00.0)", "%1$(.1f|%1$+.1f|%1$ .1f|%1$05.1f|%1$(06.1f", zero);
            Bench.writes("-0x00.0p0|-0x0.00p0", "%1$09a|%1$.2a", zero);
        }
        Bench.writes("-0.0|-0|(0.00)", "%1$.1f|%1$.0f|%1$(.2f", -0.001);
        Bench.writes("-0.0", "%.1f", -Double.MIN_VALUE);
    }

    private static void sixteens() {
        Bench.says("a: 0x1. and digits of sixteen, p, the exponent; without the last zeros, but one digit");
        Bench.writes("0x1.0p0|0x1.8p0|0x1.8p1|0x1.0p4|0x1.0p-1|-0x1.0p0", "%a|%a|%a|%a|%a|%a", 1.0, 1.5, 3.0, 16.0, 0.5, -1.0);
        Bench.writes("0x1.0000000000001p0|0x1.fffffffffffffp-1|0x1.fp0|0x1.08p0", "%a|%a|%a|%a", Math.nextUp(1.0),
            Math.nextDown(1.0), 1.9375, 1.03125);
        Bench.writes("0x1.fffffffffffffp1023|0x1.0p1023|0x1.0p-1022", "%a|%a|%a", Double.MAX_VALUE, 0x1.0p1023, Double.MIN_NORMAL);
        Bench.writes("0X1.ABCDEFP0|0x1.abcdefp0", "%1$A|%1$a", 0x1.abcdefp0);
        Bench.says("a: 0x0.0p0");
        Bench.writes("0x0.0p0|-0x0.0p0|0x0.0p0|0x0.0p0|0x0.00p0|0x0.00000000000000p0", "%1$a|%2$a|%1$.0a|%1$.1a|%1$.2a|%1$.14a", 0.0, -0.0);
        Bench.says("a: # changes nothing");
        Bench.writes("0x1.0p0|0x1.8p1|0x1.0p0|  0x1.0p0|0x001.0p0|0x0.0p0", "%1$#a|%2$#a|%1$#.0a|%1$#9a|%1$#09a|%3$#a", 1.0, 3.0, 0.0);
    }

    private static void sixteensSubnormal() {
        Bench.says("a: subnormal ones 0x0. .. p-1022");
        Bench.writes("0x0.0000000000001p-1022|0x0.fffffffffffffp-1022|0x0.8p-1022", "%a|%a|%a", Double.MIN_VALUE, LARGEST_SUBNORMAL,
            Double.MIN_NORMAL / 2);
        Bench.writes("-0x0.0000000000001p-1022|0x0.000000000001p-1022", "%a|%a", -Double.MIN_VALUE, 16 * Double.MIN_VALUE);
        Bench.writes("0x1.0p-1022|0x1.0000000000001p-1022", "%a|%a", Double.MIN_NORMAL, Math.nextUp(Double.MIN_NORMAL));
        Bench.says("a: subnormal ones may become 0x1. .. p-1022");
        Bench.writes("0x1.0p-1022|0x1.000p-1022|0x1.000000000000p-1022|0x0.fffffffffffffp-1022|0x0.fffffffffffff0p-1022",
            "%1$.1a|%1$.3a|%1$.12a|%1$.13a|%1$.14a",
            LARGEST_SUBNORMAL);
        Bench.writes("0x1.0p-1022|0x0.f8p-1022|0x0.fp-1022|0x1.0p-1022", "%1$.1a|%1$.2a|%2$.1a|%3$.0a", 0x0.f8p-1022,
            0x0.f7fffffffffffp-1022, 0x0.f8p-1022);
        Bench.says("a: rounded, a half to the even one (subnormal)");
        Bench.writes("0x0.0p-1022|0x0.2p-1022|0x0.2p-1022|0x0.1p-1022", "%.1a|%.1a|%.1a|%.1a", 0x0.08p-1022, 0x0.18p-1022,
            0x0.28p-1022, 0x0.0800000000001p-1022);
        Bench.writes("0x0.0p-1022|0x0.000000000000p-1022|0x0.0000000000001p-1022|-0x0.0p-1022", "%1$.1a|%1$.12a|%1$.13a|%2$.1a",
            Double.MIN_VALUE, -Double.MIN_VALUE);
    }

    private static void sixteensRounded() {
        Bench.says("A precision (0 is 1) tells how many digits");
        Bench.writes("0x1.0p0|0x1.0p0|0x1.00p0|0x1.0000000000000p0", "%1$.0a|%1$.1a|%1$.2a|%1$.13a", 1.0);
        Bench.writes("0x1.5p0|0x1.5p0|0x1.55p0|0x1.555555555555p0|0x1.5555555555555p0", "%1$.0a|%1$.1a|%1$.2a|%1$.12a|%1$.13a", 4.0 / 3);
        Bench.says("rounded, a half to the even one");
        Bench.writes("0x1.0p0|0x1.2p0|0x1.2p0|0x1.4p0", "%.1a|%.1a|%.1a|%.1a", 0x1.08p0, 0x1.18p0, 0x1.28p0, 0x1.38p0);
        Bench.writes("0x1.0p0|0x1.1p0|0x1.1p0|0x1.2p0", "%.1a|%.1a|%.1a|%.1a", 0x1.07fffffffffffp0, 0x1.0800000000001p0,
            0x1.17fffffffffffp0, 0x1.1800000000001p0);
        Bench.writes("0x1.000000000000p0|0x1.000000000002p0|0x1.000000000001p0", "%.12a|%.12a|%.12a", 0x1.0000000000008p0,
            0x1.0000000000018p0, 0x1.0000000000009p0);
        Bench.says("(0x1.f8p3 is 0x1.0p4 by 1)");
        Bench.writes("0x1.0p4|0x1.0p4|0x1.f8p3|-0x1.0p4", "%1$.1a|%1$.0a|%1$.2a|%2$.1a", 0x1.f8p3, -0x1.f8p3);
        Bench.writes("0x1.fp3|0x1.ep3|0x1.ep3", "%.1a|%.1a|%.1a", 0x1.f7fffffffffffp3, 0x1.e8p3, 0x1.d8p3);
        Bench.writes("0x1.0p0|0x1.000000000000p0|0x1.0p-1021", "%1$.1a|%1$.12a|%2$.1a", Math.nextDown(1.0), 0x1.f8p-1022);
        Bench.writes("0x1.0p1024|0x1.000000000000p1024|0x1.fffffffffffffp1023", "%1$.1a|%1$.12a|%1$.13a", Double.MAX_VALUE);
    }

    private static void sixteensLongAndSmall() {
        Bench.says("A precision tells how many digits (beyond those that it has)");
        Bench.writes("0x1.55555555555550p0|0x1.80000000000000p0", "%1$.14a|%2$.14a", 4.0 / 3, 1.5);
        Bench.writes("0x1.8" + "0".repeat(1099) + "p0", "%.1100a", 1.5);
        Bench.says("REALS of 32 bits as those of 64");
        Bench.writes("0x1.0p-149|0x1.0p-126|0x1.fffffep127|0x1.fffffcp-127", "%a|%a|%a|%a", Float.MIN_VALUE, Float.MIN_NORMAL,
            Float.MAX_VALUE, 0x1.fffffcp-127f);
        Bench.writes("0x1.99999ap-4|0x1.ap-4|0x1.0p-148|0x1.8p-148", "%1$a|%1$.1a|%2$a|%3$a", 0.1f, 0x1.0p-148f, 0x1.8p-148f);
        Bench.writes("0.10000000149011612|1.401298464324817e-45", "%.17f|%.15e", 0.1f, Float.MIN_VALUE);
    }

    private static void specialsByS() {
        Bench.says("3 REALS by s: NaN, Infinity, -Infinity, 0.0, -0.0");
        Bench.writes("NaN|Infinity|-Infinity|0.0|-0.0", "%s|%s|%s|%s|%s", Double.NaN, Double.POSITIVE_INFINITY,
            Double.NEGATIVE_INFINITY, 0.0, -0.0);
        Bench.writes("NaN|Infinity|-Infinity|0.0|-0.0", "%s|%s|%s|%s|%s", Float.NaN, Float.POSITIVE_INFINITY,
            Float.NEGATIVE_INFINITY, 0.0f, -0.0f);
        Bench.writes("NaN|NaN", "%s|%s", Double.longBitsToDouble(-1L), Float.intBitsToFloat(-1));
    }

    private static void shortest() {
        Bench.says("3 of the decimals that read back as it the shortest of at least two digits, of these the nearest");
        Bench.writes("1.0|0.1|0.3|0.30000000000000004|-2.5", "%s|%s|%s|%s|%s", 1.0, 0.1, 0.3, 0.1 + 0.2, -2.5);
        Bench.writes("4.9E-324|9.9E-324|1.5E-323|2.0E-323|2.5E-323", "%s|%s|%s|%s|%s", 0x1p-1074, 0x2p-1074, 0x3p-1074, 0x4p-1074,
            0x5p-1074);
        Bench.writes("1.7976931348623157E308|2.2250738585072014E-308|2.225073858507201E-308", "%s|%s|%s", Double.MAX_VALUE,
            Double.MIN_NORMAL, LARGEST_SUBNORMAL);
        Bench.writes("1.0E23|9.999999999999997E22|1.0000000000000001E23", "%s|%s|%s", 1E23, Math.nextDown(1E23), Math.nextUp(1E23));
        Bench.writes("2.0E23|8.41E21|9.007199254740992E15|9.007199254740994E15", "%s|%s|%s|%s", 2E23, 8.41E21, 0x1p53,
            0x1.0000000000001p53);
        Bench.writes("1.4E-45|2.8E-45|4.2E-45|3.4028235E38|1.1754944E-38|1.1754942E-38", "%s|%s|%s|%s|%s|%s", 0x1p-149f, 0x1p-148f,
            0x3p-149f, Float.MAX_VALUE,
            Float.MIN_NORMAL, Math.nextDown(Float.MIN_NORMAL));
        Bench.writes("0.1|0.3|1.6777216E7|3.3554432E7|9.999999E9|1.0E10", "%s|%s|%s|%s|%s|%s", 0.1f, 0.3f, 16777216f, 33554432f,
            Math.nextDown(1E10f), 1E10f);
    }

    private static void shortestLayout() {
        Bench.says("3 from 0.001 on and below 10000000 with a point and a digit on both sides, else d.ddEn");
        Bench.writes("0.001|9.999999999999998E-4|0.0010000000000000002|-0.001|9.99E-4", "%s|%s|%s|%s|%s", 0.001,
            Math.nextDown(0.001), Math.nextUp(0.001), -0.001, 0.000999);
        Bench.writes("9999999.0|1.0E7|9999999.999999998|1.0000000000000002E7|-1.0E7", "%s|%s|%s|%s|%s", 9999999.0, 1E7,
            Math.nextDown(1E7), Math.nextUp(1E7), -1E7);
        Bench.writes("0.001|9.999999E-4|0.0010000002|9999999.0|1.0E7|1.0000001E7", "%s|%s|%s|%s|%s|%s", 0.001f,
            Math.nextDown(0.001f), 0.0010000002f, 9999999f, 1E7f,
            Math.nextUp(1E7f));
        Bench.writes("100.0|12.0|0.5|1234567.0|0.0123|1.0E-5|1.5E10|1.0E100|1.0E-100", "%s|%s|%s|%s|%s|%s|%s|%s|%s", 100.0, 12.0,
            0.5, 1234567.0, 0.0123, 1E-5, 1.5E10, 1E100,
            1E-100);
    }

    /** Exact values in the very middle of two decimals of which none is shorter. */
    private static void shortestOfTwo() {
        Bench.says("3 of two the one with an even last digit");
        Bench.writes("2097152.2|2097152.8|-2097153.2|-2097153.8", "%s|%s|%s|%s", 2097152.25f, 2097152.75f, -2097153.25f, -2097153.75f);
        Bench.writes("1.1258999068426242E15|1.1258999068426248E15|1.1258999068426252E15", "%s|%s|%s", 1125899906842624.25,
            1125899906842624.75, 1125899906842625.25);
        Bench.says("3 of the decimals that read back as it (one in the middle of two reals reads back as the even one alone)");
        Bench.writes("1.01E22|1.0100000000000001E22|1.03E22|1.0299999999999999E22", "%s|%s|%s|%s", 1.01E22, Math.nextUp(1.01E22), 1.03E22,
            Math.nextDown(1.03E22));
        Bench.writes("1.1809E21|1.1809000000000001E21|1.1807E21|1.1806999999999999E21", "%s|%s|%s|%s", 1.1809E21, Math.nextUp(1.1809E21),
            1.1807E21, Math.nextDown(1.1807E21));
        Bench.says("3 of the decimals that read back as it (below a power of two the next real is nearer)");
        Bench.writes("5.684341886080802E-14|6.189700196426902E26", "%s|%s", 0x1p-44, 0x1p89);
        Bench.writes("1.608611746708759E-86|8.843436600416711E-75", "%s|%s", 0x1p-285, 0x1p-246);
    }
}
