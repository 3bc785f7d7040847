import java.math.BigInteger;

/** The boundary cases of promises 1 to 13, sentence by sentence, as they stand under the promises' own headings. */
public final class CallEdgesTest {
    private static final String IAE = "IllegalArgumentException";
    private static final String ISE = "IllegalStateException";
    private static final String UOE = "UnsupportedOperationException";
    private static final String NSEE = "NoSuchElementException";
    private static final int ROW_ROOM = 800;

    public static void main(String[] args) {
        newObject();
        objectsApart();
        rowBytes();
        rowOtherN();
        rowByteAbove127();
        rowOf800();
        rowStaysWhenRefused();
        formatTakesRow();
        formatOf400();
        formatFault();
        clearCounts();
        clearLeavesTheRest();
        wholeKinds();
        wholeRefusals();
        wholeOf24();
        realOf24();
        textOf200();
        textOf24();
        runWithoutFormat();
        runFault();
        runAgain();
        kindAndPlace();
        outputPlaces();
        outputBehindTheEnd();
        digests();
        readTakesRow();
        readRefusals();
        firstNamedException();
        after512Calls();
        Bench.end();
    }

    private static void newObject() {
        Bench.says("1: All is empty");
        Bench.same("row", new FormatPress().row(0, 0, false), 0);
        Bench.same("format", new FormatPress().format(), 0);
        Bench.same("clear", new FormatPress().clear(), 0);
        Bench.same("run", Bench.told(new FormatPress()::run), NSEE);
        Bench.same("kind", new FormatPress().kind(), 0);
        Bench.same("place", new FormatPress().place(), -1);
        Bench.same("output(0)", new FormatPress().output(0), 0L);
        Bench.same("output(6000)", new FormatPress().output(6000), 0L);
        Bench.same("digest", new FormatPress().digest(), 7L);
        Bench.same("read", Bench.told(() -> new FormatPress().read(false)), IAE);
        Bench.same("first whole", new FormatPress().whole(0, 0), 1);
        Bench.same("first real", new FormatPress().real(0, false), 1);
        Bench.same("first text", new FormatPress().text(), 1);
    }

    private static void objectsApart() {
        Bench.says("1: All is empty (whatever another object holds)");
        FormatPress full = new FormatPress();
        full.whole(5, 1);
        Bench.format(full, "%d%d");
        Bench.told(full::run);
        full.row(0x41, 1, true);
        FormatPress other = new FormatPress();
        Bench.same("row", other.row(0, 0, false), 0);
        Bench.same("clear", other.clear(), 0);
        Bench.same("fault", Bench.fault(other), "0 -1");
        Bench.same("run", Bench.told(other::run), NSEE);
        Bench.format(other, "z");
        other.run();
        Bench.same("the first one's fault", Bench.fault(full), "8 2");
        Bench.same("the first one's output", full.digest(), 7L);
        Bench.same("the first one's row", full.row(0, 0, false), 1);
    }

    private static void rowBytes() {
        Bench.says("2: The low n (0 to 8) bytes of w, the highest first, come to ROW");
        String all = "ABCDEFGH";
        for (int n = 0; n <= 8; n++) {
            FormatPress press = new FormatPress();
            Bench.same("n " + n, press.row(0x4142434445464748L, n, false), n);
            Bench.same("bytes of n " + n, Bench.takenRow(press), all.substring(8 - n));
        }
        Bench.says("2: (fresh: which is empty before): how many it has");
        FormatPress press = new FormatPress();
        Bench.same("first", press.row(0x4142, 2, false), 2);
        Bench.same("behind it", press.row(0x43, 1, false), 3);
        Bench.same("none behind it", press.row(0x43, 0, false), 3);
        Bench.same("all", Bench.takenRow(press), "ABC");
        press.row(0x4142, 2, false);
        Bench.same("fresh", press.row(0x44, 1, true), 1);
        Bench.same("alone", Bench.takenRow(press), "D");
        press.row(0x4142, 2, false);
        Bench.same("fresh and none", press.row(0x44, 0, true), 0);
        Bench.same("none", Bench.takenRow(press), "");
    }

    private static void rowOtherN() {
        Bench.says("2: IllegalArgumentException for another n");
        FormatPress press = new FormatPress();
        for (boolean fresh : new boolean[] {false, true}) {
            for (int n : new int[] {-1, 9, 10, 16, 64, -8, Integer.MAX_VALUE, Integer.MIN_VALUE, 256, 65536}) {
                Bench.same("n " + n, Bench.told(() -> press.row(0x4141414141414141L, n, fresh)), IAE);
            }
        }
    }

    private static void rowByteAbove127() {
        Bench.says("2: IllegalArgumentException if one is above 127");
        for (int byteOf = 0; byteOf < 8; byteOf++) {
            for (int value : new int[] {0, 127, 128, 129, 255}) {
                long w = 0x4141414141414141L & ~(255L << 8 * byteOf) | (long) value << 8 * byteOf;
                for (int n = 0; n <= 8; n++) {
                    int count = n;
                    boolean refused = value > 127 && byteOf < n;
                    FormatPress press = new FormatPress();
                    String due = refused ? IAE : Integer.toString(n);
                    Bench.same(value + " at " + byteOf + " of " + n, Bench.told(() -> press.row(w, count, false)), due);
                }
            }
        }
    }

    private static FormatPress withRowOf(int length) {
        FormatPress press = new FormatPress();
        Bench.row(press, "0".repeat(length - 1) + "7");
        return press;
    }

    private static void rowOf800() {
        Bench.says("2: IllegalArgumentException if ROW would have more than 800");
        for (int n = 0; n <= 8; n++) {
            int count = n;
            Bench.same("800 with n " + n, withRowOf(ROW_ROOM - n).row(0x3131313131313131L, n, false), ROW_ROOM);
            if (n > 0) {
                FormatPress press = withRowOf(ROW_ROOM - n + 1);
                Bench.same("801 with n " + n, Bench.told(() -> press.row(0x3131313131313131L, count, false)), IAE);
            }
            Bench.same("full and fresh with n " + n, withRowOf(ROW_ROOM).row(0x3131313131313131L, n, true), n);
        }
    }

    private static void rowStaysWhenRefused() {
        Bench.says("2: (ROW stays then, fresh or not)");
        for (boolean fresh : new boolean[] {false, true}) {
            FormatPress press = new FormatPress();
            press.row(0x616263, 3, true);
            Bench.told(() -> press.row(0x41, -1, fresh));
            Bench.told(() -> press.row(0x41, 9, fresh));
            Bench.told(() -> press.row(0x4180, 2, fresh));
            Bench.told(() -> press.row(0x8041, 2, fresh));
            Bench.same("its length", press.row(0, 0, false), 3);
            Bench.same("its bytes", Bench.takenRow(press), "abc");
            FormatPress full = withRowOf(ROW_ROOM);
            Bench.told(() -> full.row(0x80, 1, fresh));
            Bench.told(() -> full.row(0x31, 9, fresh));
            Bench.told(() -> full.row(0x31, 1, false));
            Bench.same("its length when full", full.row(0, 0, false), ROW_ROOM);
            Bench.same("its bytes when full", full.read(false), Double.doubleToRawLongBits(7.0));
        }
    }

    private static void formatTakesRow() {
        Bench.says("3: ROW (which is empty then) becomes THE FORMAT: how many SPECS");
        FormatPress press = new FormatPress();
        Bench.same("of an empty ROW", press.format(), 0);
        Bench.same("run of it", Bench.ran(press), "");
        Bench.same("none", Bench.format(press, "abc"), "0");
        Bench.same("ROW then", press.row(0, 0, false), 0);
        Bench.same("one", Bench.format(press, "a%%"), "1");
        Bench.same("the former one is gone", Bench.ran(press), "a%");
        Bench.same("the most", Bench.format(press, "%n".repeat(200)), "200");
        Bench.same("the empty one again", press.format(), 0);
        Bench.same("run of the empty one", Bench.ran(press), "");
    }

    private static void formatOf400() {
        Bench.says("3: IllegalArgumentException if it has more than 400");
        FormatPress press = new FormatPress();
        Bench.same("399", Bench.format(press, "x".repeat(399)), "0");
        Bench.same("400", Bench.format(press, "x".repeat(398) + "%%"), "1");
        for (int length : new int[] {401, 402, 408, 799, 800}) {
            Bench.says("3: IllegalArgumentException if it has more than 400");
            Bench.same("" + length, Bench.format(press, "%q" + "y".repeat(length - 3) + "z"), IAE);
            Bench.says("3: (ROW, THE FORMAT, kind and place stay then)");
            Bench.same("fault of the one before", Bench.fault(press), "0 -1");
            Bench.same("ROW's length", press.row(0, 0, false), length);
            Bench.same("the former one", Bench.ran(press), "x".repeat(398) + "%");
        }
        Bench.row(press, " ".repeat(400) + "17");
        Bench.told(press::format);
        Bench.same("ROW's bytes", press.read(false), Double.doubleToRawLongBits(17.0));
        Bench.format(press, "xx%--5d");
        Bench.format(press, "x".repeat(401));
        Bench.same("fault that was there", Bench.fault(press), "2 2");
        Bench.same("no FORMAT before, none then", Bench.told(press::run), NSEE);
        press.whole(1, 1);
        Bench.format(press, "%b %s");
        Bench.told(press::run);
        Bench.format(press, "x".repeat(401));
        Bench.same("fault of a run that was there", Bench.fault(press), "8 3");
    }

    private static void formatFault() {
        Bench.says("3: UnsupportedOperationException for a FAULT (there is no FORMAT then)");
        String[] faulty = {"%", "%--5d", "%#d", "%-d", "%-05d", "%5n", "%.1d"};
        for (int kind = 1; kind <= 7; kind++) {
            FormatPress press = new FormatPress();
            press.whole(5, 42);
            Bench.format(press, "%d");
            press.run();
            Bench.same("of kind " + kind, Bench.format(press, "%%" + faulty[kind - 1]), UOE);
            Bench.same("kind and place", Bench.fault(press), kind + " 2");
            Bench.same("run", Bench.told(press::run), NSEE);
            Bench.same("run a second time", Bench.told(press::run), NSEE);
            Bench.same("OUTPUT is the former one", press.output(0), 0x3432000000000000L);
            Bench.same("ROW is empty", press.row(0, 0, false), 0);
            Bench.same("ARGUMENTS are the former ones", press.clear(), 1);
        }
    }

    private static void clearCounts() {
        Bench.says("4: The ARGUMENTS go: how many there were");
        FormatPress press = new FormatPress();
        Bench.same("none", press.clear(), 0);
        press.whole(0, 0);
        Bench.same("one", press.clear(), 1);
        Bench.same("none again", press.clear(), 0);
        for (int i = 0; i < 24; i++) {
            press.whole(5, i);
        }
        Bench.told(() -> press.whole(5, 24));
        Bench.same("all 24", press.clear(), 24);
        Bench.format(press, "%s");
        Bench.same("none is left", Bench.told(press::run), UOE);
        Bench.same("as fault 8", Bench.fault(press), "8 0");
        Bench.same("the next one is the first", press.whole(5, 77), 1);
        Bench.same("and is written", Bench.ran(press), "77");
    }

    private static void clearLeavesTheRest() {
        Bench.says("4: The ARGUMENTS go (and nothing else)");
        FormatPress press = new FormatPress();
        press.whole(5, 9);
        Bench.format(press, "%d");
        press.run();
        press.row(0x41, 1, true);
        press.clear();
        Bench.same("OUTPUT", press.output(0), 0x3900000000000000L);
        Bench.same("ROW", press.row(0, 0, false), 1);
        Bench.same("fault", Bench.fault(press), "0 -1");
        press.whole(5, 8);
        Bench.same("FORMAT", Bench.ran(press), "8");
    }

    private static String asByS(int what, long v) {
        FormatPress press = new FormatPress();
        press.whole(what, v);
        Bench.format(press, "%s");
        return Bench.ran(press);
    }

    private static void wholeKinds() {
        Bench.says("5: what 0 nothing");
        Bench.same("v 0", asByS(0, 0), "null");
        Bench.same("v is nothing to it", asByS(0, Long.MIN_VALUE), "null");
        Bench.says("5: 1 false or true (v not 0)");
        Bench.same("0", asByS(1, 0), "false");
        for (long v : new long[] {1, -1, 2, 256, 1L << 32, Long.MIN_VALUE, Long.MAX_VALUE}) {
            Bench.same("" + v, asByS(1, v), "true");
        }
        Bench.says("5: 2 the CHARACTER v");
        Bench.same("0", asByS(2, 0), "\0");
        Bench.same("65", asByS(2, 65), "A");
        Bench.same("1114111", asByS(2, 1114111), "\u00f4\u008f\u00bf\u00bf");
        Bench.says("5: 3, 4, 5, 6 WHOLE ones of 8, 16, 32, 64 bits (the low ones of v)");
        long[] values = {
            0, -1, 127, 128, -128, -129, 255, 256, 32767, 32768, -32768, -32769, 65535, 65536, 0x7FFFFFFFL, 0x80000000L,
            -0x80000000L, -0x80000001L,
            0xFFFFFFFFL, 0x100000000L, Long.MAX_VALUE, Long.MIN_VALUE, 0x123456789ABCDEF0L,
        };
        for (long v : values) {
            Bench.same("8 bits of " + v, asByS(3, v), Byte.toString((byte) v));
            Bench.same("16 bits of " + v, asByS(4, v), Short.toString((short) v));
            Bench.same("32 bits of " + v, asByS(5, v), Integer.toString((int) v));
            Bench.same("64 bits of " + v, asByS(6, v), Long.toString(v));
        }
    }

    private static void wholeRefusals() {
        Bench.says("5: IllegalArgumentException if what is not so");
        FormatPress press = new FormatPress();
        for (int what = 0; what <= 6; what++) {
            Bench.same("what " + what, press.whole(what, 1), what + 1);
        }
        for (int what : new int[] {-1, 7, 8, 9, 10, Integer.MIN_VALUE, Integer.MAX_VALUE}) {
            Bench.same("what " + what, Bench.told(() -> press.whole(what, 1)), IAE);
        }
        Bench.says("5: IllegalArgumentException if v is no CHARACTER for 2");
        for (long v : new long[] {-1, 1114112, 0x100000000L, 0x100000041L, Long.MIN_VALUE, Long.MAX_VALUE, -0x100000000L + 65}) {
            Bench.same("" + v, Bench.told(() -> press.whole(2, v)), IAE);
            Bench.same(v + " for 6", new FormatPress().whole(6, v), 1);
        }
        Bench.same("0", press.whole(2, 0), 8);
        Bench.same("1114111", press.whole(2, 1114111), 9);
        Bench.same("none of those refused came", press.clear(), 9);
    }

    private static FormatPress withArguments(int count) {
        FormatPress press = new FormatPress();
        for (int i = 1; i <= count; i++) {
            press.whole(5, i);
        }
        return press;
    }

    private static void wholeOf24() {
        Bench.says("5: IllegalStateException if there are 24");
        for (int what = 0; what <= 6; what++) {
            int kind = what;
            Bench.same("the 24th of kind " + what, withArguments(23).whole(what, 5), 24);
            FormatPress full = withArguments(24);
            Bench.same("the 25th of kind " + what, Bench.told(() -> full.whole(kind, 5)), ISE);
            Bench.format(full, "%1$d %24$d");
            Bench.same("those that are there", Bench.ran(full), "1 24");
            Bench.same("how many", full.clear(), 24);
            Bench.same("room again", full.whole(kind, 5), 1);
        }
    }

    private static void realOf24() {
        Bench.says("6: One more: a REAL by its bits, of 64, or (small) of 32 (the low ones)");
        FormatPress press = new FormatPress();
        Bench.same("first", press.real(0x3FF8000000000000L, false), 1);
        Bench.same("second", press.real(0x3FC00000L, true), 2);
        Bench.same("high bits are nothing to it", press.real(0xFFFFFFFF3FC00000L, true), 3);
        Bench.same("with a sign", press.real(0xBFC00000L, true), 4);
        Bench.same("with a sign, as an int", press.real((int) 0xBFC00000, true), 5);
        Bench.same("of 64 bits, high ones 0", press.real(0x3FC00000L, false), 6);
        Bench.format(press, "%s %s %s %s %s %s");
        Bench.same("all", Bench.ran(press), "1.5 1.5 1.5 -1.5 -1.5 5.28426686E-315");
        Bench.says("6: IllegalStateException as by whole");
        for (boolean small : new boolean[] {false, true}) {
            Bench.same("the 24th", withArguments(23).real(0, small), 24);
            FormatPress full = withArguments(24);
            Bench.same("the 25th", Bench.told(() -> full.real(0, small)), ISE);
            Bench.same("how many", full.clear(), 24);
            Bench.same("room again", full.real(0, small), 1);
        }
    }

    private static void textOf200() {
        Bench.says("7: One more: the TEXT ROW, which is empty then");
        FormatPress press = new FormatPress();
        Bench.same("the empty one", press.text(), 1);
        Bench.row(press, "ab");
        Bench.same("the second", press.text(), 2);
        Bench.same("ROW then", press.row(0, 0, false), 0);
        press.row(0x7A7A, 2, false);
        Bench.format(press, "[%s|%s]");
        Bench.same("ROW's later bytes are not theirs", Bench.ran(press), "[|ab]");
        Bench.says("7: IllegalArgumentException if it has more than 200");
        String longest = "0123456789".repeat(20);
        Bench.row(press, longest.substring(1));
        Bench.same("199", press.text(), 3);
        Bench.row(press, longest);
        Bench.same("200", press.text(), 4);
        for (int length : new int[] {201, 208, 400, 401, 800}) {
            Bench.row(press, "0".repeat(length - 1) + "7");
            Bench.says("7: IllegalArgumentException if it has more than 200");
            Bench.same("" + length, Bench.told(press::text), IAE);
            Bench.says("7: (ROW stays in both), for more than 200");
            Bench.same("length", press.row(0, 0, false), length);
            Bench.same("bytes", press.read(false), Double.doubleToRawLongBits(7.0));
        }
        Bench.format(press, "%3$s|%4$s");
        Bench.same("those of 199 and 200", Bench.ran(press), longest.substring(1) + "|" + longest);
        Bench.same("none of the longer ones came", press.clear(), 4);
    }

    private static void textOf24() {
        Bench.says("7: IllegalStateException as by whole");
        FormatPress press = withArguments(23);
        Bench.row(press, "last");
        Bench.same("the 24th", press.text(), 24);
        Bench.row(press, "12.5");
        Bench.same("the 25th", Bench.told(press::text), ISE);
        Bench.says("7: (ROW stays in both), for 24");
        Bench.same("length", press.row(0, 0, false), 4);
        Bench.same("bytes", press.read(false), Double.doubleToRawLongBits(12.5));
        Bench.same("the empty one", Bench.told(press::text), ISE);
        Bench.format(press, "%24$s");
        Bench.same("the 24th is as it was", Bench.ran(press), "last");
        Bench.same("how many", press.clear(), 24);
    }

    private static void runWithoutFormat() {
        Bench.says("8: NoSuchElementException without a FORMAT");
        FormatPress press = new FormatPress();
        Bench.same("new", Bench.told(press::run), NSEE);
        Bench.row(press, "abc");
        Bench.same("ROW is none", Bench.told(press::run), NSEE);
        press.format();
        Bench.same("with one", press.run(), 3);
        Bench.format(press, "%q");
        Bench.same("behind a FAULT", Bench.told(press::run), NSEE);
        Bench.says("8: (OUTPUT, kind and place stay)");
        Bench.same("OUTPUT", press.output(0), 0x6162630000000000L);
        Bench.same("fault", Bench.fault(press), "1 0");
        FormatPress other = new FormatPress();
        Bench.told(other::run);
        Bench.same("fault of a new one", Bench.fault(other), "0 -1");
        Bench.same("OUTPUT of a new one", other.digest(), 7L);
    }

    private static void runFault() {
        Bench.says("8: UnsupportedOperationException for a FAULT (OUTPUT is empty then)");
        String[] faulty = {"%9$s", "%e", "%2$c", "%2000s%2000s%2000s "};
        for (int kind = 8; kind <= 11; kind++) {
            FormatPress press = new FormatPress();
            press.whole(5, 42);
            press.whole(5, -1);
            press.whole(5, 43);
            Bench.format(press, "%d");
            press.run();
            Bench.format(press, faulty[kind - 8]);
            Bench.same("of kind " + kind, Bench.told(press::run), UOE);
            Bench.same("kind and place", Bench.fault(press), kind + (kind == 11 ? " 18" : " 0"));
            Bench.same("OUTPUT's digest", press.digest(), 7L);
            Bench.same("OUTPUT's bytes", press.output(0), 0L);
            Bench.same("THE FORMAT is still there", Bench.told(press::run), UOE);
            Bench.same("ARGUMENTS are still there", press.clear(), 3);
        }
        Bench.says("8: (OUTPUT is empty then), also of what was written before the FAULT");
        FormatPress press = new FormatPress();
        Bench.format(press, "abc%s");
        Bench.told(press::run);
        Bench.same("digest", press.digest(), 7L);
        Bench.same("bytes", press.output(0), 0L);
    }

    private static void runAgain() {
        Bench.says("8: THE FORMAT is run on the ARGUMENTS: how many bytes OUTPUT has");
        FormatPress press = new FormatPress();
        press.whole(5, 1);
        Bench.format(press, "a%d%s");
        Bench.told(press::run);
        press.whole(2, 0x20AC);
        Bench.same("with one more", press.run(), 5);
        Bench.same("fault", Bench.fault(press), "0 -1");
        Bench.same("once more, the same", press.run(), 5);
        Bench.same("OUTPUT is of the last run alone", press.output(0), 0x6131E282AC000000L);
        press.row(0x41, 1, true);
        press.run();
        Bench.same("ROW is nothing to it", press.row(0, 0, false), 1);
        Bench.format(press, "");
        Bench.same("no byte", press.run(), 0);
        Bench.same("OUTPUT is empty", press.output(0), 0L);
    }

    private static void kindAndPlace() {
        Bench.says("9, 10: The kind of the FAULT of the latest format or run; 0 without; the place of its %; -1 without");
        FormatPress press = new FormatPress();
        Bench.same("new", Bench.fault(press), "0 -1");
        Bench.format(press, "abc%.1d");
        Bench.same("a format's", Bench.fault(press), "7 3");
        Bench.told(press::run);
        Bench.same("a run without FORMAT", Bench.fault(press), "7 3");
        Bench.format(press, "ab%s");
        Bench.same("a sound format", Bench.fault(press), "0 -1");
        Bench.told(press::run);
        Bench.same("a run's", Bench.fault(press), "8 2");
        press.whole(0, 0);
        press.real(0, false);
        press.text();
        Bench.told(() -> press.whole(-1, 0));
        Bench.told(() -> press.row(0, -1, true));
        Bench.told(() -> press.output(-1));
        Bench.told(() -> press.read(false));
        press.digest();
        Bench.same("other calls leave it", Bench.fault(press), "8 2");
        press.run();
        Bench.same("a sound run", Bench.fault(press), "0 -1");
        press.clear();
        Bench.told(press::run);
        Bench.format(press, "sound");
        Bench.same("a sound format behind a run's", Bench.fault(press), "0 -1");
        Bench.format(press, "%");
        Bench.same("the first place", Bench.fault(press), "1 0");
        Bench.format(press, "x".repeat(399) + "%");
        Bench.same("the last place of a format", Bench.fault(press), "1 399");
        Bench.format(press, "x".repeat(398) + "%s");
        Bench.told(press::run);
        Bench.same("the last place of a run", Bench.fault(press), "8 398");
    }

    private static FormatPress withOutput(int length) {
        FormatPress press = new FormatPress();
        Bench.text(press, "A".repeat(200));
        StringBuilder format = new StringBuilder();
        for (int i = 0; i < length / 200; i++) {
            format.append("%1$s");
        }
        Bench.format(press, format.append("B".repeat(length % 200)).toString());
        Bench.same("length", press.run(), length);
        return press;
    }

    private static void outputPlaces() {
        Bench.says("11: Eight bytes of OUTPUT from byte at (0 to 6000) on; IllegalArgumentException for another at");
        for (FormatPress press : new FormatPress[] {new FormatPress(), withOutput(3), withOutput(6000)}) {
            Bench.same("0", Bench.told(() -> press.output(0)).equals(IAE), false);
            Bench.same("5999", Bench.told(() -> press.output(5999)).equals(IAE), false);
            Bench.same("6000", Bench.told(() -> press.output(6000)), "0");
            for (int at : new int[] {-1, -8, 6001, 6008, Integer.MIN_VALUE, Integer.MAX_VALUE, Integer.MAX_VALUE - 7}) {
                Bench.same("" + at, Bench.told(() -> press.output(at)), IAE);
            }
        }
    }

    private static void outputBehindTheEnd() {
        Bench.says("11: the first one highest, 0 behind the end");
        FormatPress press = new FormatPress();
        Bench.format(press, "ABCDEFGHI");
        press.run();
        Bench.same("all eight", press.output(0), 0x4142434445464748L);
        Bench.same("all eight, to the end", press.output(1), 0x4243444546474849L);
        Bench.same("one behind", press.output(2), 0x4344454647484900L);
        Bench.same("the last", press.output(8), 0x4900000000000000L);
        Bench.same("at the end", press.output(9), 0L);
        Bench.format(press, "z");
        press.run();
        Bench.same("a shorter OUTPUT leaves nothing of a longer one", press.output(0), 0x7A00000000000000L);
        Bench.same("nor behind it", press.output(1), 0L);
        FormatPress full = withOutput(6000);
        Bench.same("the last eight", full.output(5992), 0x4141414141414141L);
        Bench.same("the last seven", full.output(5993), 0x4141414141414100L);
        Bench.same("the last one", full.output(5999), 0x4100000000000000L);
        FormatPress high = new FormatPress();
        high.whole(2, 1114111);
        Bench.format(high, "%c%<c");
        high.run();
        Bench.same("bytes above 127", high.output(0), 0xF48FBFBFF48FBFBFL);
    }

    private static void digests() {
        Bench.says("12: From 7 on, for each byte of OUTPUT times 31 and it (0 to 255)");
        Bench.same("of nothing", new FormatPress().digest(), 7L);
        FormatPress press = new FormatPress();
        Bench.format(press, "\0");
        press.run();
        Bench.same("of the byte 0", press.digest(), 7L * 31);
        Bench.format(press, "\177");
        press.run();
        Bench.same("of the byte 127", press.digest(), 7L * 31 + 127);
        press.whole(2, 128);
        Bench.format(press, "%c");
        press.run();
        Bench.same("of the bytes 194 and 128", press.digest(), (7L * 31 + 194) * 31 + 128);
        Bench.same("asking changes nothing", press.digest(), (7L * 31 + 194) * 31 + 128);
        Bench.says("12: From 7 on, for each byte of OUTPUT times 31 and it, wrapping around in 64 bits");
        BigInteger sum = BigInteger.valueOf(7);
        for (int i = 0; i < 6000; i++) {
            sum = sum.multiply(BigInteger.valueOf(31)).add(BigInteger.valueOf('A'));
        }
        Bench.same("of 6000 bytes", withOutput(6000).digest(), sum.longValue());
    }

    private static void readTakesRow() {
        Bench.says("13: ROW (which is empty then) is read");
        FormatPress press = new FormatPress();
        for (boolean small : new boolean[] {false, true}) {
            Bench.row(press, "1");
            press.read(small);
            Bench.same("behind a number", press.row(0, 0, false), 0);
            Bench.row(press, "x");
            Bench.told(() -> press.read(small));
            Bench.same("behind none", press.row(0, 0, false), 0);
        }
        Bench.says("13: the bits of the REAL of 64, or (small) of 32 bits, as an int with its sign");
        String[] texts = {"1", "-1", "0", "-0", "Infinity", "-Infinity", "NaN", "-NaN"};
        long[] bits = {
            0x3FF0000000000000L, 0xBFF0000000000000L, 0, 0x8000000000000000L, 0x7FF0000000000000L, 0xFFF0000000000000L, 0x7FF8000000000000L,
            0x7FF8000000000000L,
        };
        int[] smallBits = {0x3F800000, 0xBF800000, 0, 0x80000000, 0x7F800000, 0xFF800000, 0x7FC00000, 0x7FC00000};
        for (int i = 0; i < texts.length; i++) {
            Bench.row(press, texts[i]);
            Bench.same(texts[i], press.read(false), bits[i]);
            Bench.row(press, texts[i]);
            Bench.same("small " + texts[i], press.read(true), (long) smallBits[i]);
        }
    }

    private static void readRefusals() {
        Bench.says("13: IllegalArgumentException if it is none");
        FormatPress press = new FormatPress();
        press.whole(5, 3);
        Bench.format(press, "%d%s");
        Bench.told(press::run);
        for (String text : new String[] {"", " ", "x", "1x", "x1", "1 1", "0".repeat(799) + "x"}) {
            for (boolean small : new boolean[] {false, true}) {
                Bench.row(press, text);
                Bench.same("of " + text, Bench.told(() -> press.read(small)), IAE);
            }
        }
        Bench.row(press, "0".repeat(799) + "5");
        Bench.same("a ROW of 800", press.read(false), Double.doubleToRawLongBits(5.0));
        Bench.same("fault as it was", Bench.fault(press), "8 2");
        Bench.same("ARGUMENTS as they were", press.clear(), 1);
    }

    private static void firstNamedException() {
        Bench.says("4: Of several exceptions of a call the one that its words name first is thrown");
        FormatPress full = withArguments(24);
        Bench.same("whole: what", Bench.told(() -> full.whole(7, 0)), IAE);
        Bench.same("whole: what below", Bench.told(() -> full.whole(-1, 0)), IAE);
        Bench.same("whole: no CHARACTER", Bench.told(() -> full.whole(2, 1114112)), IAE);
        Bench.row(full, "x".repeat(201));
        Bench.same("text", Bench.told(full::text), IAE);
        Bench.same("text: ROW stays", full.row(0, 0, false), 201);
        Bench.row(full, "%" + "x".repeat(400));
        Bench.same("format: too long and a FAULT", Bench.told(full::format), IAE);
        Bench.same("ARGUMENTS", full.clear(), 24);
    }

    private static void after512Calls() {
        Bench.says("An object is used for at most 512 calls after it has been made");
        FormatPress press = new FormatPress();
        for (int calls = 1; calls <= 508; calls++) {
            press.row(0x41, 1, true);
        }
        Bench.same("the 509th", press.row(0x2564, 2, true), 2);
        Bench.same("the 510th", press.format(), 1);
        Bench.same("the 511th", press.whole(5, 512), 1);
        Bench.same("the 512th", press.run(), 3);
    }
}
