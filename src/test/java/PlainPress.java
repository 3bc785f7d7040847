import java.math.BigDecimal;
import java.math.BigInteger;
import java.math.MathContext;
import java.math.RoundingMode;
import java.nio.charset.StandardCharsets;
import java.time.LocalDateTime;
import java.time.ZoneOffset;
import java.time.format.TextStyle;
import java.util.ArrayList;
import java.util.List;
import java.util.Locale;
import java.util.NoSuchElementException;
import java.util.regex.Matcher;
import java.util.regex.Pattern;

/**
 * The document written down a second time, as plainly as the Java library allows (patterns, BigDecimal, java.time,
 * parseDouble), for random runs of calls whose answers must be the same. It shares no line with FormatPress.
 */
final class PlainPress {
    private static final Pattern SPEC = Pattern.compile("%(?:(\\d++)\\$|(<))?+([-#+ 0,(]*+)(\\d++)?+(?:\\.(\\d++))?+"
        + "(?:([bBsScCdoxXeEfgGaA%n])|([tT])([HIklMSLYyCmdejBbAapsQRTrDF]))");
    private static final Pattern NUMBER = Pattern.compile(
        "[+-]?(?:NaN|Infinity|(?:(?:\\d+\\.?\\d*|\\.\\d+)(?:[eE][+-]?\\d+)?"
            + "|0[xX](?:[0-9a-fA-F]+\\.?[0-9a-fA-F]*|\\.[0-9a-fA-F]+)[pP][+-]?\\d+)[fFdD]?)");

    /** A CHARACTER, apart from the numbers. */
    private static final class Letter {
        final int code;

        Letter(int code) {
            this.code = code;
        }
    }

    /** A spec with all its parts; those that are not there are null or empty. */
    private static final class Parts {
        final String number;
        final boolean previous;
        final String flags;
        final String width;
        final String precision;
        final char letter;
        final char kind;
        final String suffix;
        final int end;

        Parts(Matcher m) {
            number = m.group(1);
            previous = m.group(2) != null;
            flags = m.group(3);
            width = m.group(4);
            precision = m.group(5);
            letter = (m.group(6) != null ? m.group(6) : m.group(7)).charAt(0);
            kind = Character.toLowerCase(letter);
            suffix = m.group(8);
            end = m.end();
        }

        boolean has(char flag) {
            return flags.indexOf(flag) >= 0;
        }

        int precisionOr(int usual) {
            return precision == null ? usual : Integer.parseInt(precision);
        }
    }

    /** A FAULT that a run meets. */
    private static final class Fault extends RuntimeException {
        private static final long serialVersionUID = 1;
        final int kind;

        Fault(int kind) {
            this.kind = kind;
        }
    }

    private String row = "";
    private String format;
    private final List<Object> arguments = new ArrayList<>();
    private byte[] output = new byte[0];
    private int kind = 0;
    private int place = -1;

    int row(long w, int n, boolean fresh) {
        if (n < 0 || n > 8) {
            throw new IllegalArgumentException();
        }
        String more = "";
        for (int i = 8 - n; i < 8; i++) {
            more += (char) BigInteger.valueOf(w).shiftRight(8 * (7 - i)).and(BigInteger.valueOf(255)).intValue();
        }
        String all = (fresh ? "" : row) + more;
        if (more.chars().anyMatch(c -> c > 127) || all.length() > 800) {
            throw new IllegalArgumentException();
        }
        row = all;
        return row.length();
    }

    int format() {
        if (row.length() > 400) {
            throw new IllegalArgumentException();
        }
        String taken = row;
        row = "";
        format = null;
        int specs = 0;
        for (int at = taken.indexOf('%'); at >= 0; specs++) {
            Matcher m = SPEC.matcher(taken).region(at, taken.length());
            Parts parts = m.lookingAt() ? new Parts(m) : null;
            kind = fault(parts);
            if (kind > 0) {
                place = at;
                throw new UnsupportedOperationException();
            }
            at = taken.indexOf('%', parts.end);
        }
        kind = 0;
        place = -1;
        format = taken;
        return specs;
    }

    private static boolean isNumber(String digits, boolean zeroFirst, int most) {
        return digits == null || digits.length() <= 4 && (zeroFirst || digits.charAt(0) != '0') && Integer.parseInt(digits) <= most;
    }

    private static int fault(Parts p) {
        if (p == null || !isNumber(p.number, false, 9999) || !isNumber(p.width, false, 2000) || !isNumber(p.precision, true, 1100)) {
            return 1;
        }
        if (p.flags.chars().distinct().count() < p.flags.length()) {
            return 2;
        }
        if (p.flags.chars().anyMatch(c -> taken(p.kind).indexOf(c) < 0)) {
            return 3;
        }
        if (p.width == null && (p.has('-') || p.has('0'))) {
            return 4;
        }
        if (p.has('-') && p.has('0') || p.has('+') && p.has(' ')) {
            return 5;
        }
        if (p.width != null && p.kind == 'n') {
            return 6;
        }
        return p.precision != null && "cdoxt%n".indexOf(p.kind) >= 0 ? 7 : 0;
    }

    private static String taken(char kind) {
        switch (kind) {
            case 'n': return "";
            case 'd': return "-+ 0,(";
            case 'o': case 'x': return "-#0";
            case 'e': return "-#+ 0(";
            case 'f': return "-#+ 0,(";
            case 'g': return "-+ 0,(";
            case 'a': return "-#+ 0";
            default: return "-";
        }
    }

    int clear() {
        int before = arguments.size();
        arguments.clear();
        return before;
    }

    int whole(int what, long v) {
        if (what < 0 || what > 6 || what == 2 && (v < 0 || v > 1114111)) {
            throw new IllegalArgumentException();
        }
        Object[] all = {null, v != 0, new Letter((int) v), (byte) v, (short) v, (int) v, v};
        return one(all[what]);
    }

    int real(long bits, boolean small) {
        return one(small ? (Object) Float.intBitsToFloat((int) bits) : (Object) Double.longBitsToDouble(bits));
    }

    int text() {
        if (row.length() > 200) {
            throw new IllegalArgumentException();
        }
        int count = one(row);
        row = "";
        return count;
    }

    private int one(Object o) {
        if (arguments.size() == 24) {
            throw new IllegalStateException();
        }
        arguments.add(o);
        return arguments.size();
    }

    int run() {
        if (format == null) {
            throw new NoSuchElementException();
        }
        List<Byte> written = new ArrayList<>();
        int at = 0;
        int next = 0;
        int latest = -1;
        try {
            while (at < format.length()) {
                byte[] more = {(byte) format.charAt(at)};
                int end = at + 1;
                if (format.charAt(at) == '%') {
                    Matcher m = SPEC.matcher(format).region(at, format.length());
                    m.lookingAt();
                    Parts p = new Parts(m);
                    end = p.end;
                    if (p.kind != '%' && p.kind != 'n') {
                        latest = p.number != null ? Integer.parseInt(p.number) - 1 : p.previous ? latest : next++;
                    }
                    more = bytes(p, latest);
                }
                if (written.size() + more.length > 6000) {
                    throw new Fault(11);
                }
                for (byte b : more) {
                    written.add(b);
                }
                at = end;
            }
        } catch (Fault f) {
            output = new byte[0];
            kind = f.kind;
            place = at;
            throw new UnsupportedOperationException();
        }
        output = new byte[written.size()];
        for (int i = 0; i < output.length; i++) {
            output[i] = written.get(i);
        }
        kind = 0;
        place = -1;
        return output.length;
    }

    int kind() {
        return kind;
    }

    int place() {
        return place;
    }

    long output(int at) {
        if (at < 0 || at > 6000) {
            throw new IllegalArgumentException();
        }
        BigInteger sum = BigInteger.ZERO;
        for (int i = at; i < at + 8; i++) {
            sum = sum.multiply(BigInteger.valueOf(256)).add(BigInteger.valueOf(i < output.length ? output[i] & 255 : 0));
        }
        return sum.longValue();
    }

    long digest() {
        BigInteger sum = BigInteger.valueOf(7);
        for (byte b : output) {
            sum = sum.multiply(BigInteger.valueOf(31)).add(BigInteger.valueOf(b & 255));
        }
        return sum.longValue();
    }

    long read(boolean small) {
        String text = row.trim();
        row = "";
        if (!NUMBER.matcher(text).matches()) {
            throw new IllegalArgumentException();
        }
        return small ? Float.floatToIntBits(Float.parseFloat(text)) : Double.doubleToLongBits(Double.parseDouble(text));
    }

    /** What a spec writes, in bytes; the argument is counted from 0. */
    private byte[] bytes(Parts p, int argument) {
        if (p.kind == '%' || p.kind == 'n') {
            return utf8(filled(p, p.kind == 'n' ? "\n" : "%"));
        }
        if (argument < 0 || argument >= arguments.size()) {
            throw new Fault(8);
        }
        Object o = arguments.get(argument);
        if (o != null && !goesWith(p.kind, o)) {
            throw new Fault(9);
        }
        if (p.kind == 'c' && o instanceof Number && (((Number) o).intValue() < 0 || ((Number) o).intValue() > 1114111)) {
            throw new Fault(10);
        }
        String text = filled(p, o == null ? cut(p, p.kind == 'b' ? "false" : "null") : of(p, o));
        String capitals = "";
        for (int c : text.codePoints().toArray()) {
            capitals += new String(Character.toChars(c >= 'a' && c <= 'z' && p.letter < 'a' ? c - 32 : c));
        }
        return utf8(capitals);
    }

    private static boolean goesWith(char kind, Object o) {
        boolean whole = o instanceof Number && !(o instanceof Double) && !(o instanceof Float);
        switch (kind) {
            case 'c': return o instanceof Letter || whole && !(o instanceof Long);
            case 'd': case 'o': case 'x': return whole;
            case 'e': case 'f': case 'g': case 'a': return o instanceof Number && !whole;
            case 't': return o instanceof Long;
            default: return true;
        }
    }

    private static byte[] utf8(String text) {
        StringBuilder bytes = new StringBuilder();
        for (int c : text.codePoints().toArray()) {
            if (c >= 55296 && c <= 57343) {
                // Java's own would be a question mark
                bytes.append((char) (224 + c / 4096)).append((char) (128 + c / 64 % 64)).append((char) (128 + c % 64));
            } else {
                byte[] one = new String(Character.toChars(c)).getBytes(StandardCharsets.UTF_8);
                bytes.append(new String(one, StandardCharsets.ISO_8859_1));
            }
        }
        return bytes.toString().getBytes(StandardCharsets.ISO_8859_1);
    }

    private static String filled(Parts p, String text) {
        int width = p.width == null ? 0 : Integer.parseInt(p.width);
        String blanks = " ".repeat(Math.max(0, width - text.codePointCount(0, text.length())));
        return p.has('-') ? text + blanks : blanks + text;
    }

    private static String cut(Parts p, String text) {
        int characters = text.codePointCount(0, text.length());
        return p.precision == null ? text : text.substring(0, text.offsetByCodePoints(0, Math.min(characters, p.precisionOr(0))));
    }

    private static String of(Parts p, Object o) {
        switch (p.kind) {
            case 'b': return cut(p, o instanceof Boolean ? o.toString() : "true");
            case 's': return cut(p, text(o));
            case 'c': return new String(Character.toChars(o instanceof Letter ? ((Letter) o).code : ((Number) o).intValue()));
            case 'd': return signed(p, ((Number) o).longValue() < 0, "", commas(p, o.toString().replace("-", "")));
            case 'o': return signed(p, false, p.has('#') ? "0" : "", bits(o).toString(8));
            case 'x': return signed(p, false, p.has('#') ? "0x" : "", bits(o).toString(16));
            case 't': return time((Long) o, p.suffix.charAt(0));
            default: return real(p, ((Number) o).doubleValue());
        }
    }

    private static String text(Object o) {
        if (o instanceof Letter) {
            return new String(Character.toChars(((Letter) o).code));
        }
        if (o instanceof Double || o instanceof Float) {
            return shortest((Number) o);
        }
        return o.toString();
    }

    private static BigInteger bits(Object o) {
        int bits = o instanceof Byte ? 8 : o instanceof Short ? 16 : o instanceof Integer ? 32 : 64;
        return BigInteger.valueOf(((Number) o).longValue()).mod(BigInteger.TWO.pow(bits));
    }

    /** Sign, what stands before the digits, zeros up to the width, digits. */
    private static String signed(Parts p, boolean below, String before, String digits) {
        String open = below ? p.has('(') ? "(" : "-" : p.has('+') ? "+" : p.has(' ') ? " " : "";
        String close = below && p.has('(') ? ")" : "";
        int width = p.has('0') ? Integer.parseInt(p.width) : 0;
        int zeros = Math.max(0, width - (open + before + digits + close).length());
        return open + before + "0".repeat(zeros) + digits + close;
    }

    private static String commas(Parts p, String digits) {
        int point = digits.indexOf('.') < 0 ? digits.length() : digits.indexOf('.');
        String whole = digits.substring(0, point);
        return (p.has(',') ? whole.replaceAll("(?<=\\d)(?=(\\d{3})+$)", ",") : whole) + digits.substring(point);
    }

    private static String real(Parts p, double value) {
        if (Double.isNaN(value)) {
            return "NaN";
        }
        boolean below = Double.doubleToLongBits(value) < 0;
        if (Double.isInfinite(value)) {
            String sign = below ? p.has('(') ? "(" : "-" : p.has('+') ? "+" : p.has(' ') ? " " : "";
            return sign + "Infinity" + (below && p.has('(') ? ")" : "");
        }
        BigDecimal size = new BigDecimal(value).abs();
        int precision = p.precisionOr(6);
        switch (p.kind) {
            case 'e': return signed(p, below, "", scientific(p, size, precision));
            case 'f': return signed(p, below, "", fixed(p, size, precision));
            case 'g': return signed(p, below, "", general(p, size, Math.max(precision, 1)));
            default: return signed(p, below, "0x", sixteens(Math.abs(value), p.precision == null ? -1 : Math.max(precision, 1)));
        }
    }

    private static String fixed(Parts p, BigDecimal size, int behind) {
        String plain = size.setScale(behind, RoundingMode.HALF_UP).toPlainString();
        return commas(p, plain + (behind == 0 && p.has('#') ? "." : ""));
    }

    /** The power of ten of the first digit. */
    private static int power(BigDecimal size) {
        return size.signum() == 0 ? 0 : size.precision() - size.scale() - 1;
    }

    private static String scientific(Parts p, BigDecimal size, int behind) {
        BigDecimal rounded = size.round(new MathContext(behind + 1, RoundingMode.HALF_UP));
        int power = power(rounded);
        String digits = rounded.movePointLeft(power).setScale(behind).toPlainString();
        String point = behind == 0 && p.has('#') ? "." : "";
        return digits + point + "e" + (power < 0 ? "-" : "+") + (Math.abs(power) < 10 ? "0" : "") + Math.abs(power);
    }

    private static String general(Parts p, BigDecimal size, int digits) {
        BigDecimal rounded = size.round(new MathContext(digits, RoundingMode.HALF_UP));
        boolean plain = rounded.compareTo(BigDecimal.ONE.movePointLeft(4)) >= 0 && rounded.compareTo(BigDecimal.ONE.movePointRight(digits)) < 0;
        return rounded.signum() == 0 || plain ? fixed(p, rounded, digits - 1 - power(rounded)) : scientific(p, rounded, digits - 1);
    }

    /** Behind 0x; digits below 0 are as many as are needed. */
    private static String sixteens(double size, int digits) {
        if (size == 0) {
            return "0." + "0".repeat(Math.max(digits, 1)) + "p0";
        }
        int power = Math.max(Math.getExponent(size), -1022);
        // as a whole number of units of the last digit wanted
        BigDecimal ones = new BigDecimal(size).multiply(power < 0 ? two(-power) : BigDecimal.ONE).divide(power > 0 ? two(power) : BigDecimal.ONE);
        int wanted = digits < 0 ? 13 : digits;
        BigInteger units = ones.multiply(new BigDecimal(BigInteger.valueOf(16).pow(wanted))).setScale(0, RoundingMode.HALF_EVEN).toBigInteger();
        if (units.shiftRight(4 * wanted).intValue() == 2) {
            units = units.shiftRight(1);
            power++;
        }
        String text = units.toString(16);
        text = "0".repeat(Math.max(0, wanted + 1 - text.length())) + text;
        String behind = digits < 0 ? text.substring(1).replaceAll("(?<=.)0+$", "") : text.substring(1);
        return text.charAt(0) + "." + behind + "p" + power;
    }

    private static BigDecimal two(int power) {
        return new BigDecimal(BigInteger.TWO.pow(power));
    }

    private static String shortest(Number value) {
        double wide = value.doubleValue();
        if (wide == 0 || Double.isNaN(wide) || Double.isInfinite(wide)) {
            return value.toString();
        }
        BigDecimal exact = new BigDecimal(wide).abs();
        BigDecimal best = null;
        for (int digits = 2; best == null; digits++) {
            for (RoundingMode mode : new RoundingMode[] {RoundingMode.DOWN, RoundingMode.UP, RoundingMode.HALF_EVEN}) {
                // the nearest of all is the last one, so that it wins if it reads back
                BigDecimal decimal = exact.round(new MathContext(digits, mode));
                String text = decimal.toString();
                boolean reads = value instanceof Float ? Float.parseFloat(text) == Math.abs((Float) value)
                    : Double.parseDouble(text) == Math.abs((Double) value);
                best = reads ? decimal : best;
            }
        }
        best = best.stripTrailingZeros();
        boolean plain = best.compareTo(BigDecimal.ONE.movePointLeft(3)) >= 0 && best.compareTo(BigDecimal.ONE.movePointRight(7)) < 0;
        int power = plain ? 0 : power(best);
        BigDecimal shown = best.movePointLeft(power);
        return (wide < 0 ? "-" : "") + shown.setScale(Math.max(shown.scale(), 1)).toPlainString() + (plain ? "" : "E" + power);
    }

    private static String time(long millis, char suffix) {
        LocalDateTime t = LocalDateTime.ofEpochSecond(Math.floorDiv(millis, 1000L), (int) Math.floorMod(millis, 1000L) * 1000000, ZoneOffset.UTC);
        int twelve = t.getHour() % 12 == 0 ? 12 : t.getHour() % 12;
        long year = Math.abs((long) t.getYear());
        switch (suffix) {
            case 'H': return digits(2, t.getHour());
            case 'I': return digits(2, twelve);
            case 'k': return digits(1, t.getHour());
            case 'l': return digits(1, twelve);
            case 'M': return digits(2, t.getMinute());
            case 'S': return digits(2, t.getSecond());
            case 'L': return digits(3, t.getNano() / 1000000);
            case 'Y': return (t.getYear() < 0 ? "-" : "") + digits(4, year);
            case 'y': return digits(2, year % 100);
            case 'C': return digits(2, year / 100);
            case 'm': return digits(2, t.getMonthValue());
            case 'd': return digits(2, t.getDayOfMonth());
            case 'e': return digits(1, t.getDayOfMonth());
            case 'j': return digits(3, t.getDayOfYear());
            case 'B': return t.getMonth().getDisplayName(TextStyle.FULL, Locale.ENGLISH);
            case 'b': return time(millis, 'B').substring(0, 3);
            case 'A': return t.getDayOfWeek().getDisplayName(TextStyle.FULL, Locale.ENGLISH);
            case 'a': return time(millis, 'A').substring(0, 3);
            case 'p': return t.getHour() < 12 ? "am" : "pm";
            case 's': return Long.toString(Math.floorDiv(millis, 1000L));
            case 'Q': return Long.toString(millis);
            case 'R': return time(millis, 'H') + ":" + time(millis, 'M');
            case 'T': return time(millis, 'R') + ":" + time(millis, 'S');
            case 'r': return time(millis, 'I') + ":" + time(millis, 'M') + ":" + time(millis, 'S') + (t.getHour() < 12 ? " AM" : " PM");
            case 'D': return time(millis, 'm') + "/" + time(millis, 'd') + "/" + time(millis, 'y');
            default: return time(millis, 'Y') + "-" + time(millis, 'm') + "-" + time(millis, 'd');
        }
    }

    private static String digits(int atLeast, long v) {
        return String.format(Locale.ROOT, "%0" + atLeast + "d", v);
    }
}
