import java.util.Locale;
import java.util.Random;

/** Promise 8: run, of all but reals and times; with the kind and place of its faults. */
public final class RunTest {
    public static void main(String[] args) {
        plainWriting();
        nothing();
        characters();
        wholesAsJava();
        basesAndSigns();
        whichArgument();
        kindsOfArguments();
        noCharacter();
        tooLong();
        whatStays();
        Bench.end();
    }

    private static void plainWriting() {
        Bench.writes("", "");
        Bench.writes("a\0\177z", "a\0\177z");
        Bench.writes("100%|    %|%    |\n", "100%%|%5%|%-5%|%n");
        Bench.writes("%%", "%1$%%<%");
        Bench.writes("true false TRUE FALSE", "%b %b %B %B", true, false, true, false);
        Bench.writes("true true true true true", "%b %b %b %b %b", 0, 0L, 0.0, "", '\0');
        Bench.writes("tr|   fa||TRU  |", "%.2b|%5.2b|%.0b|%-5.3B|", true, false, true, true);
        Bench.writes("text|TEXT A1{|  te|te  |", "%s|%S|%4.2s|%-4.2s|", "text", "text a1{", "text", "text");
        Bench.writes("||abc|abc", "%.0s|%.0s|%.3s|%.1100s", "x", "", "abc", "abc");
        Bench.writes("true X 12 -5 -9223372036854775808", "%s %s %s %s %s", true, 'X', (byte) 12, -5, Long.MIN_VALUE);
        Bench.writes("-12|FALSE", "%.3s|%S", -12345, false);
        Bench.writes(" ".repeat(1999) + "x", "%2000s", "x");
    }

    private static void nothing() {
        for (String c : "s c d o x e f g a tH tY".split(" ")) {
            Bench.writes("null", "%" + c, (Object) null);
            Bench.writes("      null", "%10" + c, (Object) null);
            Bench.writes("null      |", "%-10" + c + "|", (Object) null);
        }
        for (String c : "S C X E G A TH TY".split(" ")) {
            Bench.writes("NULL", "%" + c, (Object) null);
        }
        for (String c : "d o x e f g a".split(" ")) {
            Bench.writes("      null", "%010" + c, (Object) null);
        }
        for (String c : "s e f g a".split(" ")) {
            Bench.writes("nu|   n|", "%.2" + c + "|%<4.1" + c + "|%<.0" + c, (Object) null);
        }
        Bench.writes("null|null|null|null", "%+d|%<,d|%<(d|%<#x", (Object) null);
        Bench.writes("false FALSE fal   FA", "%b %<B %<.3b %<4.2B", (Object) null);
    }

    private static void characters() {
        Bench.writes("A A \u00e9 \u20ac", "%c %C %c %c", 'A', 'A', '\u00e9', '\u20ac');
        Bench.writes("A Z", "%C %C", 'a', 'z');
        Bench.writes("A\u00ff~", "%c%c%c", (byte) 65, (short) 255, 126);
        Bench.writes("\ud83d\ude00", "%c", 0x1F600);
        Bench.writes("   \u20ac|\u20ac   |", "%4c|%-4c|", '\u20ac', '\u20ac');
        Bench.writes("   \u20ac|\u20ac   ||\u20ac", "%4s|%-4.1s|%.0s|%.7s", '\u20ac', '\u20ac', '\u20ac', '\u20ac');
        Bench.writes("\u00e9", "%C", '\u00e9');
        bytesOf(0, 0x00);
        bytesOf(0x7F, 0x7F);
        bytesOf(0x80, 0xC2, 0x80);
        bytesOf(0x7FF, 0xDF, 0xBF);
        bytesOf(0x800, 0xE0, 0xA0, 0x80);
        bytesOf(0xD800, 0xED, 0xA0, 0x80);
        bytesOf(0xDFFF, 0xED, 0xBF, 0xBF);
        bytesOf(0xFFFF, 0xEF, 0xBF, 0xBF);
        bytesOf(0x10000, 0xF0, 0x90, 0x80, 0x80);
        bytesOf(0x10FFFF, 0xF4, 0x8F, 0xBF, 0xBF);
    }

    private static void bytesOf(int character, int... due) {
        FormatPress press = new FormatPress();
        press.whole(2, character);
        press.whole(5, character);
        for (String format : new String[] {"%c", "%s", "%C", "%2$c"}) {
            Bench.format(press, format);
            Bench.same("length of " + character, press.run(), due.length);
            byte[] got = Bench.bytes(press, due.length);
            for (int i = 0; i < due.length; i++) {
                Bench.same("byte " + i + " of " + character + format, got[i] & 255, due[i]);
            }
        }
        Bench.format(press, "%6c");
        Bench.same("filled by characters", press.run(), due.length + 5);
    }

    private static void wholesAsJava() {
        String[] formats = {
            "%d", "%8d", "%-8d|", "%08d", "%+d", "% d", "%,d", "%(d", "%+,d", "%(,d", "%+(12d", "%-+12d|", "%+012d", "%(012d", "% 012d",
            "%,018d", "%,030d", "%-,30d|", "% (,d", "%x", "%X", "%o", "%#x", "%#X", "%#o", "%020x", "%#020x", "%#020o", "%-20x|", "%#-24X|",
            "%1d", "%s", "%.3s", "%12S", "%b", "%3x", "%#5x",
        };
        Random random = new Random(7);
        for (int i = 0; i < 400; i++) {
            long v = sample(random, i);
            for (String format : formats) {
                asJava(format, (byte) v);
                asJava(format, (short) v);
                asJava(format, (int) v);
                asJava(format, v);
            }
        }
    }

    private static long sample(Random random, int i) {
        long[] edges = {
            0, 1, -1, 9, 10, 99, 100, -999, 999, 1000, -1000, 999999, 1000000, 127, -128, 32767, -32768, Integer.MAX_VALUE, Integer.MIN_VALUE,
            Long.MAX_VALUE, Long.MIN_VALUE, 1000000000000000000L, -1000000000000000000L, 999999999999999999L, 8, 7, 64, 255, 256, 4096,
        };
        return i < edges.length ? edges[i] : random.nextLong() >> random.nextInt(64);
    }

    private static void asJava(String format, Object value) {
        Bench.writes(String.format(Locale.ROOT, format, value), format, value);
    }

    private static void basesAndSigns() {
        Bench.writes("0x0 00 ff 377 FFFF", "%#x %#o %x %o %X", 0, 0, (byte) -1, (byte) -1, (short) -1);
        Bench.writes("1777777777777777777777", "%o", -1L);
        Bench.writes("0X00FF", "%#06X", 255);
        Bench.writes("(0001,234)", "%(,010d", -1234);
        Bench.writes("+0001,234", "%+,09d", 1234);
    }

    private static void whichArgument() {
        Bench.writes("abc", "%s%s%s", "a", "b", "c");
        Bench.writes("babc", "%2$s%s%s%s", "a", "b", "c");
        Bench.writes("aab", "%s%<s%s", "a", "b", "c");
        Bench.writes("cca", "%3$s%<s%s", "a", "b", "c");
        Bench.writes("a%a\na", "%s%%%<s%n%<s", "a", "b");
        Bench.writes("acba", "%s%3$s%s%1$s", "a", "b", "c");
        Bench.writes("abb", "%s%2$s%<s", "a", "b");
        Bench.writes("fault 8 at 0", "%s");
        Bench.writes("fault 8 at 3", "%s %s", "a");
        Bench.writes("fault 8 at 0", "%2$s", "a");
        Bench.writes("fault 8 at 0", "%9999$s", "a");
        Bench.writes("fault 8 at 0", "%<s", "a");
        Bench.writes("fault 8 at 3", "%n %<s", "a");
        Bench.writes("fault 8 at 4", "%2$%%<s", "a", "b");
        Bench.writes("fault 8 at 2", "ab%25$d", 1);
        Bench.writes("a\n%", "%s%9$n%9$%", "a");
    }

    private static void kindsOfArguments() {
        Object[] all = {true, 'c', (byte) 1, (short) 1, 1, 1L, 1.0, 1.0f, "t"};
        String[] taken = {
            "b=111111111", "s=111111111", "c=011110000", "d=001111000", "o=001111000", "x=001111000", "e=000000110", "f=000000110",
            "g=000000110", "a=000000110", "tH=000001000", "TY=000001000", "B=111111111", "S=111111111", "C=011110000", "X=001111000",
            "E=000000110", "G=000000110", "A=000000110",
        };
        for (String row : taken) {
            String[] parts = row.split("=");
            for (int i = 0; i < all.length; i++) {
                String written = Bench.written("..%" + parts[0], all[i]);
                Bench.same(row + " of " + all[i].getClass(), written.equals("fault 9 at 2"), parts[1].charAt(i) == '0');
            }
        }
        Bench.writes("fault 9 at 3", "%d %d", 1, "x");
        Bench.writes("fault 9 at 0", "%d%s", 1.0);
    }

    private static void noCharacter() {
        Bench.writes("fault 10 at 0", "%c", -1);
        Bench.writes("fault 10 at 0", "%c", (byte) -1);
        Bench.writes("fault 10 at 0", "%C", (short) -1);
        Bench.writes("fault 10 at 1", "x%c", 1114112);
        Bench.writes("fault 10 at 0", "%c%d", Integer.MAX_VALUE);
        Bench.writes("fault 9 at 0", "%c", 65L);
        Bench.writes("fault 9 at 0", "%c", -1L);
    }

    private static void tooLong() {
        Bench.writes(" ".repeat(1999) + "x" + " ".repeat(1999) + "x" + " ".repeat(1999) + "x", "%2000s%<2000s%<2000s", "x");
        Bench.writes("fault 11 at 20", "%2000s%<2000s%<2000sa", "x".repeat(7));
        Bench.writes("fault 11 at 21", "%2000s%<2000s%<1999sab", "x");
        Bench.writes("fault 11 at 20", "%2000s%<2000s%<2000s%n", "x");
        Bench.writes("fault 11 at 20", "%2000s%<2000s%<2000s%%", "x");
        Bench.writes("fault 11 at 14", "%2000s%<2000s %<2000s", "x");
        Bench.writes("fault 11 at 20", "%2000s%<2000s%<1998s%c", "x", '\u20ac');
        Bench.writes("fault 11 at 13", "%2000s%<2000s%<1997s%c", '\u20ac', "x");
        Bench.writes("fault 8 at 20", "%2000s%<2000s%<2000s%9$s", "x");
        FormatPress press = new FormatPress();
        Bench.text(press, "x".repeat(200));
        Bench.format(press, "%s" + "%<s".repeat(29));
        Bench.same("6000", press.run(), 6000);
        Bench.format(press, "%s" + "%<s".repeat(29) + "%<.0s");
        Bench.same("and nothing", press.run(), 6000);
        Bench.format(press, "%s" + "%<s".repeat(29) + "%<.1s");
        Bench.same("6001", Bench.told(press::run), "UnsupportedOperationException");
        Bench.same("kind", press.kind(), 11);
        Bench.same("place", press.place(), 2 + 29 * 3);
        Bench.same("empty", press.digest(), 7L);
    }

    private static void whatStays() {
        FormatPress press = new FormatPress();
        press.whole(5, 42);
        Bench.format(press, "%d!");
        press.run();
        Bench.format(press, "%");
        Bench.same("no format", Bench.told(press::run), "NoSuchElementException");
        Bench.same("output stays", press.output(0), 0x3432210000000000L);
        Bench.same("kind stays", press.kind(), 1);
        Bench.same("place stays", press.place(), 0);
        Bench.format(press, "a%s%s");
        Bench.same("kind of format", press.kind(), 0);
        Bench.same("fault", Bench.told(press::run), "UnsupportedOperationException");
        Bench.same("kind", press.kind(), 8);
        Bench.same("place", press.place(), 3);
        Bench.same("output is empty", press.digest(), 7L);
        press.whole(5, 43);
        Bench.same("the format is still there", press.run(), 5);
        Bench.same("kind then", press.kind(), 0);
        Bench.same("place then", press.place(), -1);
        Bench.same("arguments stay", press.clear(), 2);
        Bench.same("row is its own", press.row(0x41, 1, false), 1);
        Bench.same("run leaves it", Bench.told(press::run), "UnsupportedOperationException");
        Bench.same("row then", press.row(0x41, 1, false), 2);
    }
}
