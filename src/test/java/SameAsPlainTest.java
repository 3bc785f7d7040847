import java.util.Random;

/** Random runs of calls on FormatPress and on PlainPress: each call has the same answer or exception on both. */
public final class SameAsPlainTest {
    private static final int RUNS = 900;
    private static final int CALLS = 250;
    private static final String CONVERSIONS = "bBsScCdoxXeEfgGaA%ntT";
    private static final String SUFFIXES = "HIklMSLYyCmdejBbAapsQRTrDF";
    private static final String FLAGS = "-#+ 0,(";
    private static final String NUMBER_BYTES = "0123456789.eEpPxXfFdD+- aN";
    private static final String[] WORDS = {"NaN", "Infinity", "0x1.", "1e", "p-1074", "e308", "e-324", "0x0.", "999999", "00000", "5", ".", "f", " "};

    private final Random random;
    private final FormatPress press = new FormatPress();
    private final PlainPress plain = new PlainPress();
    private final StringBuilder calls = new StringBuilder();

    private SameAsPlainTest(long seed) {
        random = new Random(seed);
    }

    public static void main(String[] args) {
        int runs = args.length > 0 ? Integer.parseInt(args[0]) : RUNS;
        long first = args.length > 1 ? Long.parseLong(args[1]) : 0;
        for (int i = 0; i < runs; i++) {
            new SameAsPlainTest(first + i).aRun(i);
        }
        Bench.end();
    }

    private void aRun(int number) {
        for (int used = 0; used < CALLS;) {
            used += aFew();
        }
        if (calls.length() > 0) {
            Bench.same("run " + number, calls.toString(), "nothing else");
        }
    }

    private void both(String name, Bench.Call one, Bench.Call other) {
        String got = Bench.told(one);
        String due = Bench.told(other);
        if (!got.equals(due) && calls.length() < 500) {
            calls.append(name).append(" answered ").append(got).append(", due is ").append(due).append("; ");
        }
    }

    /** A few calls that belong together; answers how many. */
    private int aFew() {
        switch (random.nextInt(14)) {
            case 0: return aFormat() + aRunOfIt();
            case 1: return aFormat();
            case 2: return arguments(random.nextInt(8) == 0 ? 25 : random.nextInt(4));
            case 3: return anyRow();
            case 4: return aNumber();
            case 5: return aText();
            case 6: return aRunOfIt();
            case 7: return arguments(1) + fittingFormat() + aRunOfIt();
            case 8: return cleared() + arguments(1 + random.nextInt(5)) + fittingFormat() + aRunOfIt();
            case 9: return random.nextInt(4) == 0 ? cleared() : aRunOfIt();
            case 10: return aTakenRow();
            default: return cleared() + matchedPair() + aRunOfIt();
        }
    }

    private int cleared() {
        both("clear", press::clear, plain::clear);
        return 1;
    }

    /** ROW of this text, fresh or behind what is there. */
    private int row(String text, boolean fresh) {
        for (int at = 0; at < text.length() || at == 0; at += 8) {
            long w = random.nextInt(3) == 0 ? random.nextLong() : 0;
            int n = Math.min(8, text.length() - at);
            for (int i = 0; i < n; i++) {
                w = w << 8 | text.charAt(at + i);
            }
            aRow(w, n, fresh && at == 0);
        }
        return text.length() / 8 + 1;
    }

    private void aRow(long w, int n, boolean fresh) {
        both("row " + w + " " + n + " " + fresh, () -> press.row(w, n, fresh), () -> plain.row(w, n, fresh));
    }

    private int anyRow() {
        int times = random.nextInt(10) == 0 ? 1 + random.nextInt(110) : 1;
        for (int i = 0; i < times; i++) {
            long w = random.nextLong() & (random.nextInt(8) == 0 ? -1L : 0x7F7F7F7F7F7F7F7FL);
            aRow(w, times > 1 ? 8 : random.nextInt(12) - 2, times == 1 && random.nextInt(5) == 0);
        }
        return times;
    }

    private int aFormat() {
        StringBuilder text = new StringBuilder();
        int specs = random.nextInt(6);
        for (int i = 0; i < specs; i++) {
            text.append(aSpec()).append(random.nextInt(3) == 0 ? "x" : "");
        }
        if (random.nextInt(12) == 0) {
            text.append(some("abc", Math.max(0, 398 + random.nextInt(5) - text.length())));
        }
        return row(text.toString(), random.nextInt(8) > 0) + formatted();
    }

    private int formatted() {
        both("format", press::format, plain::format);
        return 1 + told();
    }

    private int told() {
        both("kind", press::kind, plain::kind);
        both("place", press::place, plain::place);
        return 2;
    }

    private String some(String letters, int times) {
        StringBuilder some = new StringBuilder();
        for (int i = 0; i < times; i++) {
            some.append(letters.charAt(random.nextInt(letters.length())));
        }
        return some.toString();
    }

    private String aNumberOf(int usual, int highest) {
        switch (random.nextInt(12)) {
            case 0: return "" + random.nextInt(highest + 10);
            case 1: return "" + highest;
            case 2: return "" + (highest + 1);
            case 3: return "0" + random.nextInt(usual);
            case 4: return "1" + random.nextInt(20000);
            default: return "" + (1 + random.nextInt(usual));
        }
    }

    private String aSpec() {
        StringBuilder spec = new StringBuilder("%");
        switch (random.nextInt(6)) {
            case 0: spec.append(aNumberOf(6, 24)).append('$'); break;
            case 1: spec.append('<'); break;
            default:
        }
        spec.append(some(FLAGS, Math.max(0, random.nextInt(6) - 3)));
        if (random.nextInt(3) == 0) {
            spec.append(aNumberOf(30, 2000));
        }
        if (random.nextInt(4) == 0) {
            spec.append('.').append(random.nextInt(20) == 0 ? "" : aNumberOf(20, 1100));
        }
        if (random.nextInt(20) == 0) {
            return spec.append(some("qzhDFt$.<- \n", random.nextInt(2))).toString();
        }
        return spec.append(aConversion()).toString();
    }

    private String aConversion() {
        String c = some(CONVERSIONS, 1);
        return c.equalsIgnoreCase("t") ? c + some(random.nextInt(20) == 0 ? "GzZhN%" : SUFFIXES, 1) : c;
    }

    private int arguments(int times) {
        for (int i = 0; i < times; i++) {
            anArgument();
        }
        return times;
    }

    private void anArgument() {
        if (random.nextInt(3) == 0) {
            aReal();
        } else {
            aWhole(random.nextInt(15) == 0 ? random.nextInt(12) - 3 : random.nextInt(7));
        }
    }

    private void aReal() {
        boolean small = random.nextBoolean();
        long bits = small ? Float.floatToRawIntBits((float) aDouble()) : Double.doubleToRawLongBits(aDouble());
        long any = random.nextInt(3) == 0 ? random.nextLong() : bits;
        both("real " + any + " " + small, () -> press.real(any, small), () -> plain.real(any, small));
    }

    private void aWhole(int what) {
        long v = aLong();
        long fit = what == 2 && random.nextInt(8) > 0 ? Math.floorMod(v, 1114112L) : v;
        both("whole " + what + " " + fit, () -> press.whole(what, fit), () -> plain.whole(what, fit));
    }

    private long aLong() {
        long[] edges = {0, 1, -1, 127, 128, 255, 2047, 2048, 55295, 55296, 57343, 57344, 65535, 65536, 1114111, 1114112, Long.MIN_VALUE, Long.MAX_VALUE};
        return random.nextInt(4) == 0 ? edges[random.nextInt(edges.length)] : random.nextLong() >> random.nextInt(64);
    }

    private double aDouble() {
        switch (random.nextInt(6)) {
            case 0: return random.nextInt(2000001) / 1000.0 - 1000;
            case 1: return Math.scalb((double) (random.nextInt(4001) - 2000), random.nextInt(40) - 20);
            case 2: return Math.pow(10, random.nextInt(60) - 30) * (random.nextInt(19) - 9);
            case 3: return Double.MIN_VALUE * (random.nextLong() >>> 11 + random.nextInt(53));
            case 4: return new double[] {0.0, -0.0, Double.NaN, Double.POSITIVE_INFINITY, Double.NEGATIVE_INFINITY, Double.MAX_VALUE}[random.nextInt(6)];
            default: return Double.longBitsToDouble(random.nextLong());
        }
    }

    /** A format without a FAULT 1 to 7, so that it is run. */
    private int fittingFormat() {
        StringBuilder text = new StringBuilder();
        int specs = 1 + random.nextInt(3);
        for (int i = 0; i < specs; i++) {
            text.append(aSoundSpec());
        }
        return row(text.toString(), true) + formatted();
    }

    /** An argument that goes with a spec's conversion, and that spec. */
    private int matchedPair() {
        String spec = aSoundSpec();
        switch (Character.toLowerCase(spec.replaceAll(".*?([a-zA-Z%].?)$", "$1").charAt(0))) {
            case 'c': aWhole(2 + random.nextInt(4)); break;
            case 'd': case 'o': case 'x': aWhole(3 + random.nextInt(4)); break;
            case 'e': case 'f': case 'g': case 'a': aReal(); break;
            case 't': aWhole(6); break;
            default: anArgument();
        }
        return 1 + row(spec, true) + formatted();
    }

    private String aSoundSpec() {
        while (true) {
            String spec = aSpec();
            PlainPress trial = new PlainPress();
            for (char c : spec.toCharArray()) {
                trial.row(c, 1, false);
            }
            if (!Bench.told(trial::format).equals("UnsupportedOperationException")) {
                return spec;
            }
        }
    }

    private int aRunOfIt() {
        both("run", press::run, plain::run);
        both("digest", press::digest, plain::digest);
        int at = random.nextInt(3) == 0 ? random.nextInt(6020) - 10 : random.nextInt(40);
        both("output " + at, () -> press.output(at), () -> plain.output(at));
        return 3 + told();
    }

    private int aText() {
        int length = random.nextInt(6) == 0 ? 198 + random.nextInt(5) : random.nextInt(20);
        int used = row(some("abc XYZ%09{`@[\n\0", length), random.nextInt(5) > 0);
        both("text", press::text, plain::text);
        return used + 1;
    }

    private int aNumber() {
        StringBuilder text = new StringBuilder(some(" \t\0", random.nextInt(2)));
        switch (random.nextInt(5)) {
            case 0: text.append(some(NUMBER_BYTES, random.nextInt(12))); break;
            case 1: text.append(some("+-", random.nextInt(2))).append(WORDS[random.nextInt(WORDS.length)]).append(WORDS[random.nextInt(WORDS.length)]); break;
            case 2: text.append(aDouble()).append(some("fFdD", random.nextInt(2))); break;
            case 3: text.append(Double.toHexString(aDouble())).append(some("0123", random.nextInt(2))); break;
            default: text.append(some("0123456789", 1 + random.nextInt(40))).append('.').append(some("05", random.nextInt(100)))
                .append(some("eE", 1)).append(random.nextInt(800) - 400);
        }
        text.append(some(" \n", random.nextInt(2)));
        int used = row(text.toString(), random.nextInt(8) > 0);
        boolean small = random.nextBoolean();
        both("read " + text + " " + small, () -> press.read(small), () -> plain.read(small));
        return used + 1;
    }

    /** Takes ROW as it is. */
    private int aTakenRow() {
        switch (random.nextInt(3)) {
            case 0: both("text", press::text, plain::text); break;
            case 1: both("format", press::format, plain::format); break;
            default: both("read", () -> press.read(false), () -> plain.read(false));
        }
        return 1 + told();
    }
}
