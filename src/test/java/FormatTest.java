import java.util.Random;
import java.util.regex.Matcher;
import java.util.regex.Pattern;

/** Promises 3, 9 and 10: format, and the kind and place of its fault. */
public final class FormatTest {
    public static void main(String[] args) {
        counts();
        noConversion();
        otherFaults();
        everyFlagAndConversion();
        firstFault();
        whatStays();
        theLimit();
        manyFormats();
        Bench.end();
    }

    private static void counts() {
        counted("", 0);
        counted("plain text", 0);
        counted("%%", 1);
        counted("%n%n", 2);
        counted("%d and %5d%-5d", 3);
        counted("%1$s%<s%9999$s", 3);
        counted("%2000.1100f", 1);
        counted("%.0000f%.0001e", 2);
        counted("%<05d%4$-5d", 2);
        counted("%0,(9d%- 9d%+09.3f%#09x", 4);
        counted("%b%B%s%S%c%C%d%o%x%X%e%E%f%g%G%a%A%%%n", 19);
        counted("%5%%-5%%1$%%<n", 4);
        for (char suffix : "HIklMSLYyCmdejBbAapsQRTrDF".toCharArray()) {
            counted("%t" + suffix + "%T" + suffix + "%-20t" + suffix, 3);
        }
    }

    private static void counted(String format, int specs) {
        FormatPress press = new FormatPress();
        Bench.same(format, Bench.format(press, format), Integer.toString(specs));
        Bench.same("kind of " + format, press.kind(), 0);
        Bench.same("place of " + format, press.place(), -1);
    }

    private static void faulty(String format, int kind, int place) {
        FormatPress press = new FormatPress();
        Bench.same(format, Bench.format(press, format), "UnsupportedOperationException");
        Bench.same("kind of " + format, press.kind(), kind);
        Bench.same("place of " + format, press.place(), place);
        Bench.same("row behind " + format, press.row(0, 0, false), 0);
        Bench.same("no format behind " + format, Bench.told(press::run), "NoSuchElementException");
        Bench.same("kind stays behind " + format, press.kind(), kind);
    }

    private static void noConversion() {
        String[] formats = {
            "%", "%5", "%-", "%-5", "%1$", "%<", "%.", "%.5", "%5.3", "%t", "%T", "%-5t", "%y", "%tz", "%tE", "%TN", "%D", "%F", "%O",
            "%N", "%h", "%i", "%$d", "%.d", "%.f", "%5.f", "%.-3f", "%0$d", "%01$d", "%00$d", "%12345$d", "%10000d", "%12345d",
            "%.10000f", "%.00001f", "%.1101f", "%2001d", "%9999d", "%.9999f", "%5-d", "%1$<d", "%<1$d", "%<<d", "%1$2$d", "%5,d",
            "%..3f", "%3..f", "%.3.3f", "% ", "%#", "%\n", "%\0", "%\177", "%5$", "%01", "%-$d", "%--", "%--y", "%-0q", "%.3.d",
            "%*d", "%ld", "%1 $d", "%5$5$d", "%t%", "%t-H",
        };
        for (String format : formats) {
            faulty(format, 1, 0);
            faulty("ab%%" + format, 1, 4);
        }
    }

    private static void otherFaults() {
        faulty("%--5d", 2, 0);
        faulty("%00d", 2, 0);
        faulty("%000d", 2, 0);
        faulty("%005d", 2, 0);
        faulty("%-0-5d", 2, 0);
        faulty("%##n", 2, 0);
        faulty("%  .3d", 2, 0);
        faulty("%++x", 2, 0);
        faulty("%1$,,d", 2, 0);
        faulty("%<((e", 2, 0);
        faulty("%-n", 3, 0);
        faulty("%-5n", 3, 0);
        faulty("%0s", 3, 0);
        faulty("%-05s", 3, 0);
        faulty("%+ x", 3, 0);
        faulty("%#.3d", 3, 0);
        faulty("%,e", 3, 0);
        faulty("%(a", 3, 0);
        faulty("%,a", 3, 0);
        faulty("%#g", 3, 0);
        faulty("%05%", 3, 0);
        faulty("%#tH", 3, 0);
        faulty("%-d", 4, 0);
        faulty("%0d", 4, 0);
        faulty("%-0d", 4, 0);
        faulty("%-.3d", 4, 0);
        faulty("%-%", 4, 0);
        faulty("%0.3f", 4, 0);
        faulty("%-tH", 4, 0);
        faulty("%0+ d", 4, 0);
        faulty("%-1$d", 1, 0);
        faulty("%-05d", 5, 0);
        faulty("%0-5.2d", 5, 0);
        faulty("%+ d", 5, 0);
        faulty("% +5.2f", 5, 0);
        faulty("%5n", 6, 0);
        faulty("%5.3n", 6, 0);
        faulty("%.3n", 7, 0);
        faulty("%.3c", 7, 0);
        faulty("%.3C", 7, 0);
        faulty("%.0d", 7, 0);
        faulty("%5.3o", 7, 0);
        faulty("%.3x", 7, 0);
        faulty("%.3X", 7, 0);
        faulty("%.3tH", 7, 0);
        faulty("%.3TH", 7, 0);
        faulty("%.3%", 7, 0);
    }

    private static void everyFlagAndConversion() {
        String flags = "-#+ 0,(";
        String[] taken = {
            "b-", "B-", "s-", "S-", "c-", "C-", "tH-", "Tp-", "n", "%-", "d-+ 0,(", "o-#0", "x-#0", "X-#0", "e-#+ 0(", "E-#+ 0(",
            "f-#+ 0,(", "g-+ 0,(", "G-+ 0,(", "a-#+ 0", "A-#+ 0",
        };
        for (String row : taken) {
            int letters = row.charAt(0) == 't' || row.charAt(0) == 'T' ? 2 : 1;
            for (char flag : flags.toCharArray()) {
                String format = "%" + flag + "9" + row.substring(0, letters);
                if (row.indexOf(flag, letters) >= 0) {
                    counted(format, 1);
                } else {
                    faulty(format, 3, 0);
                }
            }
        }
    }

    private static void firstFault() {
        faulty("%d%5d%-d%y", 4, 5);
        faulty("%5n%y", 6, 0);
        faulty("x%%%.3d%5n", 7, 3);
    }

    private static void whatStays() {
        FormatPress press = new FormatPress();
        Bench.format(press, "abc%5");
        Bench.row(press, "x".repeat(401));
        Bench.same("401", Bench.told(press::format), "IllegalArgumentException");
        Bench.same("kind stays", press.kind(), 1);
        Bench.same("place stays", press.place(), 3);
        Bench.same("row stays", press.row(0, 0, false), 401);
        Bench.format(press, "abc");
        Bench.row(press, "x".repeat(800));
        Bench.same("800", Bench.told(press::format), "IllegalArgumentException");
        Bench.same("no kind", press.kind(), 0);
        Bench.same("the format stays", press.run(), 3);
        Bench.same("its text", press.output(0), 0x6162630000000000L);
        Bench.same("row stays through run", press.row(0, 0, false), 800);
        Bench.format(press, "%q");
        Bench.same("the output stays", press.output(0), 0x6162630000000000L);
        Bench.same("a format again", Bench.format(press, "%%"), "1");
        Bench.same("its kind", press.kind(), 0);
        Bench.same("its place", press.place(), -1);
    }

    private static void theLimit() {
        FormatPress press = new FormatPress();
        Bench.same("400", Bench.format(press, "%n".repeat(200)), "200");
        Bench.same("run", press.run(), 200);
        faulty("x".repeat(399) + "%", 1, 399);
    }

    private static final Pattern SPEC = Pattern.compile(
        "%(?:([1-9]\\d{0,3})\\$|<|(?!\\d+\\$))([-#+ 0,(]*)([1-9]\\d{0,3})?(?:\\.(\\d{1,4}))?([bBsScCdoxXeEfgGaA%n]|[tT][HIklMSLYyCmdejBbAapsQRTrDF])");

    /** What a pattern makes of formats of random parts. */
    private static void manyFormats() {
        Random random = new Random(31);
        String[] parts = {
            "%", "%", "%", "d", "s", "f", "e", "g", "a", "x", "o", "c", "b", "n", "tH", "TF", "t", "-", "#", "+", " ", "0", ",", "(", "1", "5", "1$", "<",
            ".", ".3", "12", "2000", "1100", ".1100", ".1101", "2001", "$", "A", "z", "%5d", "%-9s", "%n",
        };
        for (int i = 0; i < 40000; i++) {
            StringBuilder b = new StringBuilder("%");
            int count = 1 + random.nextInt(7);
            for (int k = 0; k < count; k++) {
                b.append(parts[random.nextInt(parts.length)]);
            }
            asByPattern(b.toString());
        }
    }

    private static void asByPattern(String format) {
        Matcher matcher = SPEC.matcher(format);
        int specs = 0;
        int at = format.indexOf('%');
        while (at >= 0) {
            boolean there = matcher.find(at) && matcher.start() == at;
            int fault = there ? faultOf(matcher) : 1;
            if (fault != 0) {
                faulty(format, fault, at);
                return;
            }
            specs++;
            at = format.indexOf('%', matcher.end());
        }
        counted(format, specs);
    }

    private static int faultOf(Matcher spec) {
        String flags = spec.group(2);
        int width = spec.group(3) == null ? 0 : Integer.parseInt(spec.group(3));
        int precision = spec.group(4) == null ? -1 : Integer.parseInt(spec.group(4));
        String conversion = spec.group(5).substring(0, 1).toLowerCase();
        if (width > 2000 || precision > 1100) {
            return 1;
        }
        if (flags.chars().distinct().count() < flags.length()) {
            return 2;
        }
        String taken = "d-+ 0,(|o-#0|x-#0|e-#+ 0(|f-#+ 0,(|g-+ 0,(|a-#+ 0|b-|s-|c-|t-|n|%-";
        String own = taken.substring(taken.indexOf(conversion)).split("\\|")[0];
        if (flags.chars().anyMatch(flag -> own.indexOf(flag, 1) < 0)) {
            return 3;
        }
        if (width == 0 && (flags.contains("-") || flags.contains("0"))) {
            return 4;
        }
        if (flags.contains("-") && flags.contains("0") || flags.contains("+") && flags.contains(" ")) {
            return 5;
        }
        if (width > 0 && conversion.equals("n")) {
            return 6;
        }
        return precision >= 0 && "cdoxt%n".contains(conversion) ? 7 : 0;
    }
}
