/** The boundary cases of the document's terms: the limits, the shape of a SPEC, and the FAULTS 1 to 11, sentence by sentence. */
public final class TermEdgesTest {
    private static final String CONVERSIONS = "bBsScCdoxXeEfgGaA%n";
    private static final String TIMES = "HIklMSLYyCmdejBbAapsQRTrDF";
    private static final String FLAGS = "-#+ 0,(";

    public static void main(String[] args) {
        limits();
        bytesThatStandForThemselves();
        numberOfOneToFourDigits();
        numberBeginningWith0();
        numberOrFlagsAndWidth();
        flagsInAnyOrder();
        everyConversion();
        fault1();
        widthAndPrecisionLimits();
        fault2();
        fault3();
        fault4();
        fault5();
        fault6And7();
        firstOfTheFaults();
        firstSpecWithAFault();
        whichArgument();
        fault8();
        fault9();
        fault10();
        fault11();
        fromTheLeftToTheRight();
        Bench.end();
    }

    /** Formats are sound if this says "sound"; else their FAULT's kind and place. */
    private static String checked(String format) {
        FormatPress press = new FormatPress();
        String told = Bench.format(press, format);
        return told.matches("\\d+") ? "sound" : press.kind() + " at " + press.place();
    }

    private static void sound(String... formats) {
        for (String format : formats) {
            Bench.same(format, checked(format), "sound");
            Bench.same("behind text: " + format, checked("x%%" + format), "sound");
        }
    }

    private static void faulty(int kind, String... formats) {
        for (String format : formats) {
            Bench.same(format, checked(format), kind + " at 0");
            Bench.same("behind text: " + format, checked("x%%" + format), kind + " at 3");
        }
    }

    private static void limits() {
        Bench.says("THE FORMAT (at most 400 bytes)");
        Bench.same("400", checked("a".repeat(400)), "sound");
        Bench.same("401", Bench.format(new FormatPress(), "a".repeat(401)), "IllegalArgumentException");
        Bench.says("ARGUMENTS: at most 24, numbered from 1");
        Object[] all = new Object[24];
        for (int i = 0; i < 24; i++) {
            all[i] = 100 + i;
        }
        Bench.writes("100 123", "%1$d %24$d", all);
        Bench.writes("fault 8 at 0", "%25$d", all);
        Bench.writes("fault 1 at 0", "%0$d", all);
        Bench.writes("100".concat("101102103104105106107108109110111112113114115116117118119120121122123"), "%d".repeat(24), all);
        Bench.writes("fault 8 at 48", "%d".repeat(25), all);
        Bench.says("a TEXT (at most 200 bytes)");
        Bench.writes("t".repeat(200), "%s", "t".repeat(200));
        Bench.says("OUTPUT has at most 6000 bytes");
        Bench.same("6000", Bench.written("%1$2000d%1$2000d%1$2000d", 1).length(), 6000);
        Bench.writes("fault 11 at 24", "%1$2000d%1$2000d%1$2000d.", 1);
    }

    private static void bytesThatStandForThemselves() {
        Bench.says("bytes other than %, which stand for themselves");
        for (int b = 0; b < 128; b++) {
            String one = Character.toString((char) b);
            Bench.writes(b == '%' ? "fault 1 at 0" : one, one);
        }
    }

    private static void numberOfOneToFourDigits() {
        Bench.says("A NUMBER is of one to four digits");
        sound("%1$d", "%12$d", "%123$d", "%1234$d", "%9999$d", "%1d", "%12d", "%123d", "%1234d", "%.1f", "%.12f", "%.123f", "%.1000f");
        sound("%9999$1999.0999f", "%1$-1000.1100f");
        Bench.says("(or a NUMBER of five digits): 1");
        faulty(1, "%12345$d", "%99999$d", "%10000$d", "%123456$d", "%12345d", "%10000d", "%123456d", "%.10000f", "%.00000f",
            "%.00001f", "%.12345f");
        faulty(1, "%-12345d", "%012345d", "%5.12345f", "%12345.5f", "%1$12345d", "%<12345d", "%99999999999d", "%4294967297$d",
            "%.4294967297f");
        Bench.says("A NUMBER is of one to four digits (none is none)");
        faulty(1, "%$d", "%.f", "%5.f", "%.d", "%-.f", "%1$.f", "%.$d");
    }

    private static void numberBeginningWith0() {
        Bench.says("the first of NUMBER $ and of the WIDTH not 0");
        faulty(1, "%0$d", "%01$d", "%001$d", "%0001$d", "%00$d", "%0000$d", "%00001$d");
        sound("%10$d", "%100$d", "%1000$d");
        Bench.says("the first of the WIDTH not 0 (it is a FLAG then)");
        sound("%05d", "%010d");
        faulty(2, "%005d", "%00d", "%0005d");
        Bench.writes("00042|42", "%05d|%<1d", 42);
        Bench.says("the first of NUMBER $ and of the WIDTH not 0 (of the precision it may be)");
        Bench.writes("1.0|1.00|1|1", "%.01f|%<.0002f|%<.0f|%<.0000f", 1.0);
    }

    private static void numberOrFlagsAndWidth() {
        Bench.says("(behind % digits and $ are the first, digits without it FLAGS and WIDTH)");
        Object[] two = {1, 2};
        Bench.writes("2", "%2$d", two);
        Bench.writes(" 1", "%2d", two);
        Bench.writes("01", "%02d", two);
        Bench.writes(" 2", "%2$2d", two);
        Bench.writes("02", "%2$02d", two);
        Bench.writes("1 |2 ", "%-2d|%2$-2d", two);
        Bench.writes(" 2| 2", "%2$2d|%<2d", two);
        faulty(1, "%-2$d", "% 2$d", "%02$d", "%1$2$d", "%<2$d", "%1$<d", "%<<d", "%-<d", "%5-d", "%5 d", "%5#x", "%1$1-d");
    }

    private static void flagsInAnyOrder() {
        Bench.says("FLAGS are any of - # + blank 0 , ( in any order");
        for (String flags : new String[] {"0,(+", "(,+0", "+0,(", ",(0+"}) {
            Bench.writes("+000001,234.5|(000001,234.5)", "%" + flags + "13.1f|%" + flags + "14.1f", 1234.5, -1234.5);
        }
        for (String flags : new String[] {"-# ,(", "(, #-", " -(#,"}) {
            Bench.writes(" 1,234.    |(1,234.)  |", "%" + flags + "11.0f|%" + flags + "10.0f|", 1234.0, -1234.0);
        }
    }

    private static void everyConversion() {
        Bench.says("CONVERSIONS: b B s S c C d o x X e E f g G a A % n, and t or T with one of H I k l ...");
        for (int b = 0; b < 128; b++) {
            String letter = Character.toString((char) b);
            boolean taken = CONVERSIONS.indexOf(b) >= 0;
            faultUnless(taken, "%" + letter);
            faultUnless(taken && b != 'n', "%5" + letter);
            faultUnless(TIMES.indexOf(b) >= 0, "%t" + letter);
            faultUnless(TIMES.indexOf(b) >= 0, "%T" + letter);
        }
    }

    private static void faultUnless(boolean taken, String format) {
        boolean width = format.equals("%5n");
        Bench.same(format, checked(format), taken ? "sound" : width ? "6 at 0" : "1 at 0");
    }

    private static void fault1() {
        Bench.says("1 no CONVERSION there, or the end");
        faulty(1, "%", "%5", "%-", "%-5", "%.", "%.5", "%5.5", "%1$", "%<", "%1$5", "%<-5", "%t", "%T", "%5t", "%1$-5T", "%0",
            "%05", "% ", "%#", "%(");
        faulty(1, "%y", "%5y", "%.5y", "%1$y", "%<y", "%D", "%O", "%F", "%N", "%i", "%u", "%h", "%H", "%tE", "%th", "%tc", "%tz",
            "%tN", "%t5", "%t%", "%t ");
        faulty(1, "%\0", "%\177", "%!", "%*d", "%ld", "%'d", "%_d", "%:d");
        Bench.says("(or 0 $ ): 1");
        faulty(1, "%0$d", "%0$s", "%0$%", "%0$n", "%0$");
    }

    private static void widthAndPrecisionLimits() {
        Bench.says("The precision is at most 1100, else 1");
        sound("%.1099f", "%.1100f", "%.1100e", "%.1100g", "%.1100a", "%.1100s", "%.1100b");
        faulty(1, "%.1101f", "%.1101e", "%.1101g", "%.1101a", "%.1101s", "%.1101b", "%.9999f", "%.1101d", "%.2000f");
        Bench.writes("0." + "0".repeat(1100), "%.1100f", 0.0);
        Bench.writes("0x1." + "0".repeat(1100) + "p0", "%.1100a", 1.0);
        Bench.says("the WIDTH 2000, else 1, too");
        sound("%1999d", "%2000d", "%2000s", "%2000%", "%2000tH", "%-2000d", "%02000d", "%1$2000d", "%<2000d");
        faulty(1, "%2001d", "%2001s", "%2001%", "%2001tH", "%-2001d", "%02001d", "%1$2001d", "%<2001d", "%9999d", "%2001n");
        Bench.writes(" ".repeat(1999) + "7", "%2000d", 7);
        Bench.writes("0".repeat(1999) + "7", "%02000d", 7);
    }

    private static void fault2() {
        Bench.says("2 a FLAG twice");
        for (char flag : FLAGS.toCharArray()) {
            faulty(2, "%" + flag + flag + "9f", "%" + flag + flag + flag + "9f", "%1$" + flag + "," + flag + "9f",
                "%<" + flag + "(" + flag + "9f");
        }
        sound("%+(,09.3f", "% #,(9.3f", "%-+#,(9.3f");
    }

    private static void fault3() {
        Bench.says("3 FLAGS that the CONVERSION does not take: b s c t only -; n none; % only -; d ...; o x ...; e ...; f ...");
        String[] conversions = {"b", "B", "s", "S", "c", "C", "tH", "TH", "n", "%", "d", "o", "x", "X", "e", "E", "f", "g", "G", "a", "A"};
        String[] taken = {
            "-", "-", "-", "-", "-", "-", "-", "-", "", "-", "-+ 0,(", "-#0", "-#0", "-#0", "-#+ 0(", "-#+ 0(", "-#+ 0,(", "-+ 0,(",
            "-+ 0,(", "-#+ 0",
            "-#+ 0",
        };
        for (int i = 0; i < conversions.length; i++) {
            for (char flag : FLAGS.toCharArray()) {
                String width = conversions[i].equals("n") ? "" : "9";
                if (taken[i].indexOf(flag) >= 0) {
                    sound("%" + flag + width + conversions[i]);
                } else {
                    faulty(3, "%" + flag + width + conversions[i], "%" + flag + conversions[i]);
                }
            }
        }
    }

    private static void fault4() {
        Bench.says("4 - or 0 without a WIDTH");
        for (String conversion : "b B s S c C tH TH % d o x X e E f g G a A".split(" ")) {
            faulty(4, "%-" + conversion, "%1$-" + conversion, "%<-" + conversion);
            sound("%-1" + conversion);
        }
        for (String conversion : "d o x X e E f g G a A".split(" ")) {
            faulty(4, "%0" + conversion, "%1$0" + conversion, "%<0" + conversion);
            sound("%01" + conversion);
        }
        faulty(4, "%-.3f", "%0.3f", "%-.3s", "%+0e", "%-#x");
        sound("%+d", "% d", "%,d", "%(d", "%#x");
    }

    private static void fault5() {
        Bench.says("5 - with 0, or + with blank");
        faulty(5, "%-05d", "%0-5d", "%-05x", "%0-5o", "%-05.1e", "%0-5.1f", "%-05g", "%0-5a", "%-+05d");
        faulty(5, "%+ d", "% +d", "%+ 5d", "% +e", "%+ f", "% +g", "%+ a", "%-+ 5d", "%0 +5d");
        sound("%-+5d", "%- 5d", "%0+5d", "%0 5d");
    }

    private static void fault6And7() {
        Bench.says("6 a WIDTH with n");
        faulty(6, "%1n", "%5n", "%2000n", "%1$5n", "%<5n");
        sound("%n", "%5%", "%1%");
        Bench.says("7 a precision with c d o x t % n");
        for (String conversion : "c C d o x X tH TH % n".split(" ")) {
            faulty(7, "%.0" + conversion, "%.1" + conversion, "%.1100" + conversion);
        }
        faulty(7, "%5.1d", "%-5.1d", "%+.1d", "%1$.1c", "%<5.0tH", "%5.1%");
        sound("%.0b", "%.0B", "%.0s", "%.0S", "%.0e", "%.0E", "%.0f", "%.0g", "%.0G", "%.0a", "%.0A");
    }

    private static void firstOfTheFaults() {
        Bench.says("FAULTS of a SPEC, the first that is so of");
        faulty(1, "%--5q", "%--2001d", "%,2001e", "%#.1101d", "%-.1101f", "%0.1101f", "%-02001d", "%+ 2001d", "%2001n", "%.1101d",
            "%--00#12345d", "%0$-d");
        faulty(2, "%##5d", "%##5s", "%--d", "%00d", "%--05d", "%-0-5d", "%++ d", "%+ +d", "%--5n", "%--5.1d", "%,,.1x", "%((5n");
        faulty(3, "%-#d", "%0s", "%0c", "%-#05d", "%#+ d", "%-05s", "%-n", "%-5n", "%#5.1n", "%#.1d", "%+.1x", "%-0n", "%+ x",
            "%0%", "%-0%");
        faulty(4, "%-0d", "%0-d", "%0+ d", "%-+ d", "%-.1d", "%0.1x", "%-.1%", "%-.1tH", "%-0.1d");
        faulty(5, "%-05.1d", "%+ .1d", "%0-5.0x", "% +5.1d");
        faulty(6, "%5.1n", "%2000.1100n");
        faulty(7, "%.1n");
    }

    private static void firstSpecWithAFault() {
        Bench.says("The FORMAT's FAULT is that of its first SPEC that has one; told is the place of its %");
        Bench.same("the later one is of a lesser kind", checked("%d%.1d%q"), "7 at 2");
        Bench.same("the later one is of a greater kind", checked("%d%q%.1d"), "1 at 2");
        Bench.same("the same twice", checked("abc%5n%5n"), "6 at 3");
        Bench.same("behind %%", checked("%%%"), "1 at 2");
        Bench.same("behind a SPEC of many bytes", checked("%1$-20.10s%-05d"), "5 at 10");
        Bench.same("% in the last byte", checked("x".repeat(399) + "%"), "1 at 399");
        Bench.same("% in the last byte but one", checked("x".repeat(398) + "%%"), "sound");
        Bench.same("a SPEC that % ends", checked("%5%%-"), "1 at 3");
    }

    private static void whichArgument() {
        Object[] three = {"a", "b", "c"};
        Bench.says("Each SPEC but % and n takes an ARGUMENT");
        Bench.writes("%\na", "%%%n%s", three);
        Bench.writes("%\n", "%%%n");
        Bench.says("that with the NUMBER");
        Bench.writes("cab", "%3$s%1$s%2$s", three);
        Bench.says("with < the one that the SPEC before took");
        Bench.writes("aa", "%s%<s", three);
        Bench.writes("ccc", "%3$s%<s%<s", three);
        Bench.writes("aabb", "%s%<s%s%<s", three);
        Bench.writes("a%a\na", "%s%%%<s%n%<s", three);
        Bench.says("else the next one behind the last that such a one took (from 1)");
        Bench.writes("abc", "%s%s%s", three);
        Bench.writes("ca", "%3$s%s", three);
        Bench.writes("acb", "%s%3$s%s", three);
        Bench.writes("accb", "%s%3$s%<s%s", three);
        Bench.writes("aab", "%s%<s%s", three);
        Bench.writes("a%b\nc", "%s%%%s%n%s", three);
    }

    private static void fault8() {
        Bench.says("8 there is none");
        Bench.writes("fault 8 at 0", "%s");
        Bench.writes("a", "%s", "a");
        Bench.writes("fault 8 at 2", "%s%s", "a");
        Bench.writes("a", "%1$s", "a");
        Bench.writes("fault 8 at 0", "%2$s", "a");
        Bench.writes("fault 8 at 0", "%9999$s", "a");
        Bench.writes("fault 8 at 0", "%1$s");
        for (String conversion : "b s c d o x X e f g a tH TH".split(" ")) {
            Bench.writes("fault 8 at 1", "x%" + conversion);
        }
        Bench.says("8 (no SPEC before that took one, for <)");
        Bench.writes("fault 8 at 0", "%<s", "a");
        Bench.writes("fault 8 at 1", "x%<s%s", "a");
        Bench.writes("fault 8 at 2", "%%%<s", "a");
        Bench.writes("fault 8 at 4", "%n%n%<s", "a");
        Bench.writes("aa", "%1$s%<s", "a");
        FormatPress press = new FormatPress();
        Bench.text(press, "a");
        Bench.format(press, "%s%<s");
        Bench.same("a run", Bench.ran(press), "aa");
        Bench.same("the same run again", Bench.ran(press), "aa");
        Bench.format(press, "x%<s");
        Bench.same("one that another run took is none", Bench.ran(press), "UnsupportedOperationException");
        Bench.same("told", Bench.fault(press), "8 1");
    }

    private static void fault9() {
        Object[] arguments = {null, true, 'c', (byte) 65, (short) 65, 65, 65L, 1.0, 1.0f, "t"};
        String[] conversions = {"b", "B", "s", "S", "c", "C", "d", "o", "x", "X", "e", "E", "f", "g", "G", "a", "A", "tH", "tQ",
            "TH", "TF"};
        String[] taken = {
            "1111111111", "1111111111", "1111111111", "1111111111", "1011110000", "1011110000", "1001111000", "1001111000",
            "1001111000", "1001111000",
            "1000000110", "1000000110", "1000000110", "1000000110", "1000000110", "1000000110", "1000000110", "1000001000",
            "1000001000", "1000001000",
            "1000001000",
        };
        Bench.says("9 an ARGUMENT of another kind: c takes CHARACTERS and WHOLE ones of 8, 16, 32 bits; ... nothing goes with all");
        for (int i = 0; i < conversions.length; i++) {
            for (int k = 0; k < arguments.length; k++) {
                String written = Bench.written("xy%" + conversions[i], arguments[k]);
                String what = conversions[i] + " of argument " + k;
                Bench.same(what, written.startsWith("fault") ? written : "written", taken[i].charAt(k) == '1' ? "written" : "fault 9 at 2");
            }
        }
    }

    private static void fault10() {
        Bench.says("10 a WHOLE one that is no CHARACTER, for c");
        Bench.writes("\0", "%c", 0);
        Bench.writes("fault 10 at 0", "%c", -1);
        Bench.writes(new String(Character.toChars(1114111)), "%c", 1114111);
        Bench.writes("fault 10 at 0", "%c", 1114112);
        Bench.writes("fault 10 at 0", "%C", Integer.MIN_VALUE);
        Bench.writes("fault 10 at 0", "%C", Integer.MAX_VALUE);
        Bench.writes("\177", "%c", Byte.MAX_VALUE);
        Bench.writes("fault 10 at 0", "%c", Byte.MIN_VALUE);
        Bench.writes("fault 10 at 0", "%c", (byte) -1);
        Bench.writes("\u7fff", "%c", Short.MAX_VALUE);
        Bench.writes("fault 10 at 0", "%c", Short.MIN_VALUE);
        Bench.writes("fault 10 at 3", "abc%5c", (short) -1);
        Bench.writes("fault 9 at 0", "%c", -1L);
    }

    private static void fault11() {
        String full = "%1$2000s%1$2000s%1$1990s";
        Bench.says("11 OUTPUT would be too long (told: this SPEC)");
        Bench.same("up to 6000", Bench.written(full + "%10s", "x").length(), 6000);
        Bench.writes("fault 11 at 24", full + "%11s", "x");
        Bench.writes("fault 11 at 24", full + "%-11s", "x");
        Bench.writes("fault 11 at 24", full + "%s", "x".repeat(11));
        Bench.writes("fault 11 at 24", full + "%011d", 1);
        Bench.writes("fault 11 at 24", full + "%11%", 1);
        Bench.writes("fault 11 at 34", full + "0123456789%n", 1);
        Bench.writes("fault 11 at 34", full + "0123456789%%", 1);
        Bench.same("the line's end is the last", Bench.written(full + "012345678%n", 1).length(), 6000);
        Bench.same("nothing behind the last", Bench.written(full + "0123456789%2$s", 1, "").length(), 6000);
        Bench.same("bytes, not characters", Bench.written(full + "0123456%2$c", 1,
            '\u20ac').getBytes(java.nio.charset.StandardCharsets.UTF_8).length, 6000);
        Bench.writes("fault 11 at 32", full + "01234567%2$c", 1, '\u20ac');
        Bench.writes("fault 11 at 24", full + "%2$9c", 1, '\u20ac');
        Bench.writes("fault 11 at 24", full + "%.8f", 12.0);
        Bench.says("11 OUTPUT would be too long (told: the byte that is too much)");
        Bench.same("up to 6000", Bench.written(full + "0123456789", "x").length(), 6000);
        Bench.writes("fault 11 at 34", full + "0123456789a", "x");
        Bench.writes("fault 11 at 34", full + "0123456789abc", "x");
        Bench.writes("fault 11 at 34", full + "0123456789abc%9$s", "x");
    }

    private static void fromTheLeftToTheRight() {
        Bench.says("When it is run, from the left to the right");
        Bench.writes("fault 9 at 0", "%d%s%s", "x");
        Bench.writes("fault 8 at 2", "%s%s%1$d", "x");
        Bench.writes("fault 10 at 0", "%c%1$e", -1);
        Bench.writes("fault 9 at 2", "%d%1$e%1$c", -1);
        Bench.writes("fault 11 at 24", "%1$2000s%1$2000s%1$2000sx%9$s", "x");
        Bench.says("8, 9, 10 before 11 of the same SPEC");
        Bench.writes("fault 8 at 24", "%1$2000s%1$2000s%1$2000s%2$s", "x");
        Bench.writes("fault 9 at 24", "%1$2000s%1$2000s%1$2000s%1$d", "x");
        Bench.writes("fault 10 at 24", "%1$2000s%1$2000s%1$2000s%1$c", -1);
    }
}
