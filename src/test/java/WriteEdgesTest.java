import java.time.LocalDate;

/** The boundary cases of what is written, but for reals: paragraph 2 of the terms, sentence by sentence. */
public final class WriteEdgesTest {
    private static final long DAY = 86400000L;

    public static void main(String[] args) {
        width();
        capitals();
        nothing();
        precisionOfNothingBAndS();
        truths();
        characters();
        textsAndOthersByS();
        signs();
        commas();
        zeros();
        otherBases();
        hours();
        partsOfASecond();
        years();
        daysAndMonths();
        namesAndHalves();
        secondsAndMilliseconds();
        wholeTimes();
        farTimes();
        Bench.end();
    }

    private static void width() {
        Bench.says("What is written has the WIDTH at least: blanks before it, behind with -");
        Bench.writes("abc|abc|abc| abc|  abc", "%1$1s|%1$2s|%1$3s|%1$4s|%1$5s", "abc");
        Bench.writes("abc|abc|abc|abc |abc  |", "%1$-1s|%1$-2s|%1$-3s|%1$-4s|%1$-5s|", "abc");
        Bench.writes("|   |   |", "%1$s|%1$3s|%1$-3s|", "");
        Bench.writes("%|%| %|% |", "%%|%1%|%2%|%-2%|");
        Bench.writes("x" + " ".repeat(1999), "%-2000s", "x");
        Bench.writes("true| true|true |", "%1$4b|%1$5b|%1$-5b|", true);
        Bench.writes("-12|-12| -12|-12 |", "%1$2d|%1$3d|%1$4d|%1$-4d|", -12);
        Bench.writes("ff|ff| ff|ff |", "%1$1x|%1$2x|%1$3x|%1$-3x|", 255);
        Bench.writes("0xff|0xff| 0xff|0xff |", "%1$#1x|%1$#4x|%1$#5x|%1$-#5x|", 255);
        Bench.writes("1970|1970| 1970|1970 |", "%1$1tY|%1$4tY|%1$5tY|%1$-5tY|", 0L);
        Bench.says("the WIDTH at least (in characters)");
        for (int character : new int[] {0x7F, 0x80, 0x7FF, 0x800, 0xFFFD, 0xFFFF, 0x10000, 0x10FFFF}) {
            String one = new String(Character.toChars(character));
            for (String conversion : new String[] {"c", "s", "C", "S"}) {
                FormatPress press = new FormatPress();
                press.whole(2, character);
                Bench.format(press, "%1$1" + conversion + "|%1$2" + conversion + "|%1$-3" + conversion + "|");
                String due = one + "| " + one + "|" + one + "  |";
                Bench.same(conversion + " of " + character, utf8(press), due);
            }
        }
    }

    private static String utf8(FormatPress press) {
        return new String(Bench.bytes(press, press.run()), java.nio.charset.StandardCharsets.UTF_8);
    }

    private static void capitals() {
        Bench.says("Of a CONVERSION in capitals a to z are A to Z");
        StringBuilder all = new StringBuilder();
        StringBuilder due = new StringBuilder();
        for (int b = 1; b < 128; b++) {
            all.append((char) b);
            due.append(b >= 'a' && b <= 'z' ? (char) (b - 32) : (char) b);
        }
        Bench.writes(all + "|" + due, "%1$s|%1$S", all.toString());
        Bench.writes("A|Z|`|{|@|[", "%C|%C|%C|%C|%C|%C", 'a', 'z', '`', '{', '@', '[');
        Bench.writes("\u00e9|\u00ff|\u00e0|\u0101|\u03b1", "%C|%C|%C|%C|%S", '\u00e9', '\u00ff', '\u00e0', '\u0101', '\u03b1');
        Bench.writes("TRUE|FALSE|0XABCDEF|1.0E+00|1.00000|0X1.8P1|1.0E10", "%B|%B|%#X|%.1E|%G|%A|%S", true, false, 0xABCDEF, 1.0,
            1.0, 3.0, 1E10);
        Bench.writes("NAN|INFINITY|NULL|JANUARY|AM|THU", "%E|%G|%S|%TB|%4$Tp|%4$Ta", Double.NaN, Double.POSITIVE_INFINITY, null, 0L);
    }

    private static void nothing() {
        Bench.says("Nothing is null (of b: false)");
        for (String conversion : "s c d o x e f g a tH tY tQ tF".split(" ")) {
            Bench.writes("null", "%" + conversion, (Object) null);
        }
        for (String conversion : "S C X E G A TH TY TQ TF".split(" ")) {
            Bench.writes("NULL", "%" + conversion, (Object) null);
        }
        Bench.writes("false|FALSE", "%b|%<B", (Object) null);
        Bench.writes("null|null| null|null |", "%1$3d|%1$4d|%1$5d|%1$-5d|", (Object) null);
        Bench.writes("null|null|null|null|null|null", "%1$+d|%1$ d|%1$,d|%1$(d|%1$#x|%1$#f", (Object) null);
        Bench.says("0 fills as blanks do");
        for (String conversion : "d o x e f g a".split(" ")) {
            Bench.writes("null|null| null|    null",
                "%1$03" + conversion + "|%1$04" + conversion + "|%1$05" + conversion + "|%1$08" + conversion, (Object) null);
        }
    }

    private static void precisionOfNothingBAndS() {
        Bench.says("of it and b and s the precision tells how many characters at most");
        for (String conversion : "s e f g a".split(" ")) {
            String c = conversion;
            Bench.writes("|n|nul|null|null|null",
                "%1$.0" + c + "|%1$.1" + c + "|%1$.3" + c + "|%1$.4" + c + "|%1$.5" + c + "|%1$.1100" + c, (Object) null);
        }
        Bench.writes("|f|fals|false|false|FAL", "%1$.0b|%1$.1b|%1$.4b|%1$.5b|%1$.6b|%1$.3B", (Object) null);
        Bench.writes("|t|tru|true|true", "%1$.0b|%1$.1b|%1$.3b|%1$.4b|%1$.5b", true);
        Bench.writes("|f|fals|false|false", "%1$.0b|%1$.1b|%1$.4b|%1$.5b|%1$.1100b", false);
        Bench.writes("|a|ab|abc|abc|abc", "%1$.0s|%1$.1s|%1$.2s|%1$.3s|%1$.4s|%1$.1100s", "abc");
        Bench.writes("|-|-12|-123|-123", "%1$.0s|%1$.1s|%1$.3s|%1$.4s|%1$.5s", -123);
        Bench.writes("|1|1.|1.5|1.5", "%1$.0s|%1$.1s|%1$.2s|%1$.3s|%1$.4s", 1.5);
        for (char character : new char[] {'A', '\u00e9', '\u00ff', '\u20ac', '\uffff'}) {
            Bench.writes("|" + character + "|" + character, "%1$.0s|%1$.1s|%1$.2s", character);
        }
        Bench.writes("   |  a|a  |abc", "%1$3.0s|%1$3.1s|%1$-3.1s|%1$2.3s", "abc");
        Bench.writes("|", "%1$.0s|%1$.1s", "");
    }

    private static void truths() {
        Bench.says("b: true, false; true for others");
        Bench.writes("true|false", "%b|%b", true, false);
        for (Object other : new Object[] {'\0', (byte) 0, (short) 0, 0, 0L, 0.0, -0.0, 0.0f, Double.NaN, "", "false"}) {
            Bench.writes("true|TRUE", "%b|%<B", other);
        }
    }

    private static void bytesOf(int character, int... due) {
        StringBuilder bytes = new StringBuilder();
        for (int b : due) {
            bytes.append((char) b);
        }
        FormatPress press = new FormatPress();
        press.whole(2, character);
        press.whole(5, character);
        Bench.format(press, "%1$c");
        Bench.same("CHARACTER " + character + " by c", Bench.ran(press), bytes.toString());
        Bench.format(press, "%1$s");
        Bench.same("CHARACTER " + character + " by s", Bench.ran(press), bytes.toString());
        Bench.format(press, "%2$c");
        Bench.same("WHOLE one " + character + " by c", Bench.ran(press), bytes.toString());
    }

    private static void characters() {
        Bench.says("c: the CHARACTER, in UTF-8");
        bytesOf(0, 0);
        bytesOf(0x7F, 0x7F);
        bytesOf(0x80, 0xC2, 0x80);
        bytesOf(0x7FF, 0xDF, 0xBF);
        bytesOf(0x800, 0xE0, 0xA0, 0x80);
        bytesOf(0xD7FF, 0xED, 0x9F, 0xBF);
        bytesOf(0xE000, 0xEE, 0x80, 0x80);
        bytesOf(0xFFFF, 0xEF, 0xBF, 0xBF);
        bytesOf(0x10000, 0xF0, 0x90, 0x80, 0x80);
        bytesOf(0x10FFFF, 0xF4, 0x8F, 0xBF, 0xBF);
        bytesOf(0xE9, 0xC3, 0xA9);
        bytesOf(0x20AC, 0xE2, 0x82, 0xAC);
        bytesOf(0x1F600, 0xF0, 0x9F, 0x98, 0x80);
        bytesOf(0x12345, 0xF0, 0x92, 0x8D, 0x85);
        Bench.says("(55296 to 57343 as three bytes, too)");
        bytesOf(55296, 0xED, 0xA0, 0x80);
        bytesOf(56319, 0xED, 0xAF, 0xBF);
        bytesOf(56320, 0xED, 0xB0, 0x80);
        bytesOf(57343, 0xED, 0xBF, 0xBF);
        Bench.says("%: that. n: the byte 10");
        Bench.writes("%\n", "%%%n");
    }

    private static void textsAndOthersByS() {
        Bench.says("s: a TEXT as it is, a CHARACTER, true, false, WHOLE ones as by d");
        StringBuilder all = new StringBuilder();
        for (int b = 0; b < 128; b++) {
            all.append((char) b);
        }
        Bench.writes(all.toString(), "%s", all.toString());
        Bench.writes("|%d", "%s|%s", "", "%d");
        Bench.writes("A|true|false", "%s|%s|%s", 'A', true, false);
        Bench.writes("-128|127|-32768|32767", "%s|%s|%s|%s", Byte.MIN_VALUE, Byte.MAX_VALUE, Short.MIN_VALUE, Short.MAX_VALUE);
        Bench.writes("-2147483648|2147483647", "%s|%s", Integer.MIN_VALUE, Integer.MAX_VALUE);
        Bench.writes("-9223372036854775808|9223372036854775807|0", "%s|%s|%s", Long.MIN_VALUE, Long.MAX_VALUE, 0L);
    }

    private static void signs() {
        Bench.says("d: decimal");
        Bench.writes("-128|127|-32768|32767|0", "%d|%d|%d|%d|%d", Byte.MIN_VALUE, Byte.MAX_VALUE, Short.MIN_VALUE, Short.MAX_VALUE, 0);
        Bench.writes("-2147483648|2147483647", "%d|%d", Integer.MIN_VALUE, Integer.MAX_VALUE);
        Bench.writes("-9223372036854775808|9223372036854775807", "%d|%d", Long.MIN_VALUE, Long.MAX_VALUE);
        long power = 1;
        for (int i = 1; i <= 18; i++) {
            power *= 10;
            Bench.writes((power - 1) + "|" + power + "|-" + (power - 1) + "|-" + power, "%d|%d|%d|%d", power - 1, power, 1 - power, -power);
        }
        Bench.says("+ a + before what is not below 0");
        Bench.writes("+1|+0|-1", "%+d|%+d|%+d", 1, 0, -1);
        Bench.says("blank a blank");
        Bench.writes(" 1| 0|-1", "% d|% d|% d", 1, 0, -1);
        Bench.says("( parentheses instead of -");
        Bench.writes("1|0|(1)|(9223372036854775808)", "%(d|%(d|%(d|%(d", 1L, 0L, -1L, Long.MIN_VALUE);
        Bench.writes("+1|(1)| 1|(1)", "%+(d|%+(d|% (d|% (d", 1, -1, 1, -1);
        Bench.writes("(1)|(1)| (1)|(1) |", "%1$(2d|%1$(3d|%1$(4d|%1$-(4d|", -1);
    }

    private static void commas() {
        Bench.says(", commas between threes from the right");
        Bench.writes("0|9|99|999|1,000|9,999|99,999|999,999|1,000,000", "%,d|%,d|%,d|%,d|%,d|%,d|%,d|%,d|%,d", 0, 9, 99, 999, 1000,
            9999, 99999, 999999, 1000000);
        Bench.writes("-1|-999|-1,000|-999,999|-1,000,000", "%,d|%,d|%,d|%,d|%,d", -1, -999, -1000, -999999, -1000000);
        Bench.writes("-9,223,372,036,854,775,808|9,223,372,036,854,775,807", "%,d|%,d", Long.MIN_VALUE, Long.MAX_VALUE);
        Bench.writes("-128|-32,768|-2,147,483,648", "%,d|%,d|%,d", Byte.MIN_VALUE, Short.MIN_VALUE, Integer.MIN_VALUE);
        Bench.writes("  1,234|1,234  |   1234|1234   |", "%1$,7d|%1$-,7d|%1$7d|%1$-7d|", 1234);
        Bench.says(", commas (of what is before the point)");
        Bench.writes("999.1234567|1,000.1250000|1,234,567.8750000|0.0001000", "%,.7f|%,.7f|%,.7f|%,.7f", 999.1234567, 1000.125,
            1234567.875, 0.0001);
        Bench.writes("1,000|1,000,000|999,999", "%,.0f|%,.0f|%,.0f", 999.5, 999999.5, 999999.25);
        Bench.writes("123,456|1,234.50|1.23457e+06", "%,g|%,g|%,g", 123456.0, 1234.5, 1234567.0);
    }

    private static void zeros() {
        Bench.says("0 zeros behind sign, (, 0x up to the WIDTH");
        Bench.writes("12|12|012|0012", "%1$01d|%1$02d|%1$03d|%1$04d", 12);
        Bench.writes("-12|-12|-012|-0012", "%1$02d|%1$03d|%1$04d|%1$05d", -12);
        Bench.writes("+12|+012| 12| 012", "%1$+03d|%1$+04d|%1$ 03d|%1$ 04d", 12);
        Bench.writes("(12)|(12)|(012)|(0012)", "%1$(03d|%1$(04d|%1$(05d|%1$(06d", -12);
        Bench.writes("ff|0ff|0xff|0xff|0x0ff|0X00FF", "%1$02x|%1$03x|%1$#03x|%1$#04x|%1$#05x|%1$#06X", 255);
        Bench.writes("0377|0377|00377|377|0377", "%1$#03o|%1$#04o|%1$#05o|%1$03o|%1$04o", 255);
        Bench.writes("0000|-001", "%04d|%04d", 0, -1);
        Bench.writes("-9223372036854775808|-09223372036854775808", "%1$020d|%1$021d", Long.MIN_VALUE);
        Bench.says("0 zeros (without commas)");
        Bench.writes("1,234|1,234|01,234|0001,234|00000001,234", "%1$,04d|%1$,05d|%1$,06d|%1$,08d|%1$,012d", 1234);
        Bench.writes("000000012|-000001,234|(0001,234)", "%,09d|%,011d|%(,010d", 12, -1234, -1234);
        Bench.writes("0001,234.50", "%,011.2f", 1234.5);
    }

    private static void otherBases() {
        Bench.says("o x: base 8, 16");
        Bench.writes("0|7|10|77|100|0|f|10|ff|100", "%o|%o|%o|%o|%o|%x|%x|%x|%x|%x", 0, 7, 8, 63, 64, 0, 15, 16, 255, 256);
        Bench.writes("7f|7fff|7fffffff|7fffffffffffffff", "%x|%x|%x|%x", Byte.MAX_VALUE, Short.MAX_VALUE, Integer.MAX_VALUE,
            Long.MAX_VALUE);
        Bench.writes("177|77777|17777777777|777777777777777777777", "%o|%o|%o|%o", Byte.MAX_VALUE, Short.MAX_VALUE,
            Integer.MAX_VALUE, Long.MAX_VALUE);
        Bench.says("of those below 0 of all their bits");
        Bench.writes("ff|ffff|ffffffff|ffffffffffffffff", "%x|%x|%x|%x", (byte) -1, (short) -1, -1, -1L);
        Bench.writes("80|8000|80000000|8000000000000000", "%x|%x|%x|%x", Byte.MIN_VALUE, Short.MIN_VALUE, Integer.MIN_VALUE,
            Long.MIN_VALUE);
        Bench.writes("377|177777|37777777777|1777777777777777777777", "%o|%o|%o|%o", (byte) -1, (short) -1, -1, -1L);
        Bench.writes("200|100000|20000000000|1000000000000000000000", "%o|%o|%o|%o", Byte.MIN_VALUE, Short.MIN_VALUE,
            Integer.MIN_VALUE, Long.MIN_VALUE);
        Bench.says("# 0, 0x before");
        Bench.writes("00|01|0377|0x0|0x1|0xff|0XFF", "%#o|%#o|%#o|%#x|%#x|%#x|%#X", 0, 1, (byte) -1, 0, 1, (byte) -1, (byte) -1);
    }

    private static void time(String due, String suffixes, long moment) {
        StringBuilder format = new StringBuilder();
        for (String suffix : suffixes.split(" ")) {
            format.append(format.length() == 0 ? "%1$t" : " %1$t").append(suffix);
        }
        Bench.writes(due, format.toString(), moment);
    }

    private static void hours() {
        Bench.says("H hour of two digits, I of twelve (01 to 12), k, l so without 0 before");
        String[] twelve = {"12", "01", "02", "03", "04", "05", "06", "07", "08", "09", "10", "11"};
        for (int hour = 0; hour < 24; hour++) {
            String two = (hour < 10 ? "0" : "") + hour;
            String of12 = twelve[hour % 12];
            String due = two + " " + of12 + " " + hour + " " + Integer.parseInt(of12);
            time(due, "H I k l", hour * 3600000L);
            time(due, "H I k l", hour * 3600000L + 3599999L);
            time(due, "H I k l", hour * 3600000L - 400 * DAY);
        }
    }

    private static void partsOfASecond() {
        Bench.says("M S minute, second, L three digits of milliseconds");
        time("00 00 000", "M S L", 0);
        time("00 00 001", "M S L", 1);
        time("00 00 099", "M S L", 99);
        time("00 00 999", "M S L", 999);
        time("00 01 000", "M S L", 1000);
        time("00 59 999", "M S L", 59999);
        time("01 00 000", "M S L", 60000);
        time("09 09 010", "M S L", 549010);
        time("59 59 999", "M S L", 3599999);
        time("00 00 000", "M S L", 3600000);
        time("59 59 999", "M S L", -1);
        time("59 59 000", "M S L", -1000);
        time("59 58 999", "M S L", -1001);
    }

    private static long firstOf(int year) {
        return LocalDate.of(year, 1, 1).toEpochDay() * DAY;
    }

    private static void years() {
        Bench.says("Y year of four digits at least (- before it, if it is below 0), y its last two, C its hundreds of two at least");
        int[] years = {0, 1, 9, 10, 99, 100, 999, 1000, 9999, 10000, 99999, 100000, -1, -9, -99, -100, -999, -9999, -10000};
        String[] dues = {
            "0000 00 00", "0001 01 00", "0009 09 00", "0010 10 00", "0099 99 00", "0100 00 01", "0999 99 09", "1000 00 10",
            "9999 99 99", "10000 00 100",
            "99999 99 999", "100000 00 1000", "-0001 01 00", "-0009 09 00", "-0099 99 00", "-0100 00 01", "-0999 99 09",
            "-9999 99 99", "-10000 00 100",
        };
        for (int i = 0; i < years.length; i++) {
            time(dues[i], "Y y C", firstOf(years[i]));
            time(dues[i], "Y y C", firstOf(years[i] + 1) - 1);
        }
    }

    private static void daysAndMonths() {
        Bench.says("m month, d day of two digits, e of one; j day of the year of three");
        time("01 01 1 001", "m d e j", 0);
        time("12 31 31 365", "m d e j", -1);
        time("01 09 9 009", "m d e j", 8 * DAY);
        time("01 10 10 010", "m d e j", 9 * DAY);
        time("04 09 9 099", "m d e j", 98 * DAY);
        time("04 10 10 100", "m d e j", 99 * DAY);
        Bench.says("(UTC; Gregorian always)");
        int[] years = {2000, 1999, 1900, 2100, 2004, 1600, 1500, 1582, 4, 0, -1, -4, -100, -400, 1972, 1970};
        for (int year : years) {
            boolean leap = isLeap(year);
            long first = firstOf(year);
            dayOf(year - 1, isLeap(year - 1) ? "12 31 31 366" : "12 31 31 365", first - 1);
            dayOf(year, "01 01 1 001", first);
            dayOf(year, "01 31 31 031", first + 31 * DAY - 1);
            dayOf(year, "02 01 1 032", first + 31 * DAY);
            dayOf(year, "02 28 28 059", first + 58 * DAY);
            dayOf(year, leap ? "02 29 29 060" : "03 01 1 060", first + 59 * DAY);
            dayOf(year, leap ? "03 01 1 061" : "03 02 2 061", first + 60 * DAY);
            dayOf(year, leap ? "12 30 30 365" : "12 31 31 365", first + 364 * DAY);
            dayOf(leap ? year : year + 1, leap ? "12 31 31 366" : "01 01 1 001", first + 365 * DAY);
        }
        // the days that the Julian calendar's end left out are there
        time("1582-10-05 10/05/82", "F D", LocalDate.of(1582, 10, 5).toEpochDay() * DAY);
        time("1582-10-14 Thursday", "F A", LocalDate.of(1582, 10, 14).toEpochDay() * DAY);
        time("1582-10-15 Friday", "F A", LocalDate.of(1582, 10, 15).toEpochDay() * DAY);
    }

    private static void dayOf(int year, String due, long moment) {
        String size = Integer.toString(Math.abs(year));
        time((year < 0 ? "-" : "") + "0".repeat(4 - size.length()) + size + " " + due, "Y m d e j", moment);
    }

    private static boolean isLeap(int year) {
        return Math.floorMod(year, 4) == 0 && (Math.floorMod(year, 100) != 0 || Math.floorMod(year, 400) == 0);
    }

    private static void namesAndHalves() {
        Bench.says("B A names in English, b a their first three letters");
        String[] months = {"January", "February", "March", "April", "May", "June", "July", "August", "September", "October",
            "November", "December"};
        for (int month = 1; month <= 12; month++) {
            long first = LocalDate.of(2001, month, 1).toEpochDay() * DAY;
            String name = months[month - 1];
            time(name + " " + name.substring(0, 3), "B b", first);
            time(name + " " + name.substring(0, 3), "B b", LocalDate.of(2001, month, 1).plusMonths(1).toEpochDay() * DAY - 1);
            Bench.writes(name.toUpperCase() + " " + name.substring(0, 3).toUpperCase(), "%TB %<Tb", first);
        }
        String[] days = {"Thursday", "Friday", "Saturday", "Sunday", "Monday", "Tuesday", "Wednesday"};
        for (int day = -14; day < 14; day++) {
            String name = days[Math.floorMod(day, 7)];
            time(name + " " + name.substring(0, 3), "A a", day * DAY);
            time(name + " " + name.substring(0, 3), "A a", day * DAY + DAY - 1);
            Bench.writes(name.toUpperCase() + " " + name.substring(0, 3).toUpperCase(), "%TA %<Ta", day * DAY);
        }
        Bench.says("p am or pm");
        time("am", "p", 0);
        time("am", "p", DAY / 2 - 1);
        time("pm", "p", DAY / 2);
        time("pm", "p", DAY - 1);
        time("pm", "p", -1);
        Bench.writes("AM PM", "%1$Tp %2$Tp", 0L, -1L);
    }

    private static void secondsAndMilliseconds() {
        Bench.says("s seconds (downwards), Q milliseconds");
        time("0 0", "s Q", 0);
        time("0 999", "s Q", 999);
        time("1 1000", "s Q", 1000);
        time("-1 -1", "s Q", -1);
        time("-1 -999", "s Q", -999);
        time("-1 -1000", "s Q", -1000);
        time("-2 -1001", "s Q", -1001);
        time("9223372036854775 9223372036854775807", "s Q", Long.MAX_VALUE);
        time("-9223372036854776 -9223372036854775808", "s Q", Long.MIN_VALUE);
    }

    private static void wholeTimes() {
        Bench.says("R H:M, T H:M:S, r I:M:S and AM or PM, D m/d/y, F Y-m-d");
        time("00:00 00:00:00 12:00:00 AM 01/01/70 1970-01-01", "R T r D F", 0);
        time("11:59 11:59:59 11:59:59 AM 01/01/70 1970-01-01", "R T r D F", DAY / 2 - 1);
        time("12:00 12:00:00 12:00:00 PM 01/01/70 1970-01-01", "R T r D F", DAY / 2);
        time("23:59 23:59:59 11:59:59 PM 12/31/69 1969-12-31", "R T r D F", -1);
        time("00:00 00:00:00 12:00:00 AM 01/01/00 0000-01-01", "R T r D F", firstOf(0));
        time("23:59 23:59:59 11:59:59 PM 12/31/01 -0001-12-31", "R T r D F", firstOf(0) - 1);
        time("00:00 00:00:00 12:00:00 AM 01/01/00 10000-01-01", "R T r D F", firstOf(10000));
        Bench.writes("11:59:59 PM|  PM", "%Tr|%<4Tp", -1L);
    }

    private static void farTimes() {
        Bench.says("t: milliseconds from 1970 on, of all WHOLE ones of 64 bits");
        time("292278994-08-17 07:12:55 807 Sunday 229 94 2922789", "F T L A j y C", Long.MAX_VALUE);
        time("-292275055-05-16 16:47:04 192 Sunday 136 55 2922750", "F T L A j y C", Long.MIN_VALUE);
    }
}
