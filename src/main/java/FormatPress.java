import java.util.NoSuchElementException;

/**
 * A formatter of the kind of java.util.Formatter that is fed by longs: a row of bytes becomes the format or a
 * text, arguments are added one by one, and what was written is read eight bytes at a time.
 *
 * All rows are made once, by the constructor: a call makes no object of its own.
 */
public final class FormatPress {
    private static final int ROW_ROOM = 800;
    private static final int FORMAT_ROOM = 400;
    private static final int OUTPUT_ROOM = 6000;
    private static final int WORD_BYTES = 8;
    private static final int HIGHEST_BYTE = 127;

    private final Line rowLine = new Line(ROW_ROOM);
    private final Line formatLine = new Line(FORMAT_ROOM);
    private final Line outputLine = new Line(OUTPUT_ROOM);
    private final Spec spec = new Spec();
    private final Arguments arguments = new Arguments();
    private final Composer composer = new Composer(spec, arguments, outputLine);
    private final NumberReader reader = new NumberReader(rowLine);
    private boolean formatted;
    private int faultKind;
    private int faultPlace;

    public FormatPress() {
        formatted = false;
        faultKind = Spec.SOUND;
        faultPlace = -1;
    }

    public int row(long w, int n, boolean fresh) throws IllegalArgumentException {
        if (n < 0 || n > WORD_BYTES) {
            throw new IllegalArgumentException("a word gives 0 to 8 bytes");
        }
        for (int i = 0; i < n; i++) {
            if (byteOf(w, i) > HIGHEST_BYTE) {
                throw new IllegalArgumentException("a byte above 127");
            }
        }
        int before = fresh ? 0 : rowLine.length();
        if (before + n > ROW_ROOM) {
            throw new IllegalArgumentException("the row would be too long");
        }
        if (fresh) {
            rowLine.empty();
        }
        for (int i = n - 1; i >= 0; i--) {
            rowLine.add(byteOf(w, i));
        }
        return rowLine.length();
    }

    public int format() throws IllegalArgumentException, UnsupportedOperationException {
        if (rowLine.length() > FORMAT_ROOM) {
            throw new IllegalArgumentException("the row is too long for a format");
        }
        formatLine.moveFrom(rowLine);
        formatted = false;
        note(Spec.SOUND, 0);
        int specs = 0;
        for (int at = 0; at < formatLine.length(); at++) {
            if (formatLine.at(at) == '%') {
                note(spec.scan(formatLine, at), at);
                if (faultKind != Spec.SOUND) {
                    throw new UnsupportedOperationException("a spec has a fault");
                }
                specs++;
                at = Math.max(at, spec.last());
            }
        }
        formatted = true;
        return specs;
    }

    public int clear() {
        return arguments.empty();
    }

    public int whole(int what, long v) throws IllegalArgumentException, IllegalStateException {
        if (what < Arguments.NOTHING || what > Arguments.WHOLE_64) {
            throw new IllegalArgumentException("no such kind of argument");
        }
        if (what == Arguments.CHARACTER && !Arguments.isCharacter(v)) {
            throw new IllegalArgumentException("no character");
        }
        if (arguments.full()) {
            throw new IllegalStateException("no room for an argument");
        }
        return arguments.add(what, Arguments.narrowed(what, v));
    }

    public int real(long bits, boolean small) throws IllegalStateException {
        if (arguments.full()) {
            throw new IllegalStateException("no room for an argument");
        }
        return arguments.add(small ? Arguments.REAL_32 : Arguments.REAL_64, bits);
    }

    public int text() throws IllegalArgumentException, IllegalStateException {
        if (rowLine.length() > Arguments.TEXT_ROOM) {
            throw new IllegalArgumentException("the row is too long for a text");
        }
        if (arguments.full()) {
            throw new IllegalStateException("no room for an argument");
        }
        int count = arguments.addText(rowLine);
        rowLine.empty();
        return count;
    }

    public int run() throws NoSuchElementException, UnsupportedOperationException {
        if (!formatted) {
            throw new NoSuchElementException("there is no format");
        }
        outputLine.empty();
        composer.begin();
        note(Spec.SOUND, 0);
        for (int at = 0; at < formatLine.length(); at++) {
            if (formatLine.at(at) != '%') {
                note(composer.copy(formatLine.at(at)), at);
            } else {
                spec.scan(formatLine, at);
                note(composer.press(), at);
                at = Math.max(at, spec.last());
            }
            if (faultKind != Spec.SOUND) {
                outputLine.empty();
                throw new UnsupportedOperationException("the arguments do not go with the format");
            }
        }
        return outputLine.length();
    }

    public int kind() {
        return faultKind;
    }

    public int place() {
        return faultPlace;
    }

    public long output(int at) throws IllegalArgumentException {
        if (at < 0 || at > OUTPUT_ROOM) {
            throw new IllegalArgumentException("no place of the output");
        }
        long word = 0;
        for (int i = 0; i < WORD_BYTES; i++) {
            word = word << 8 | Math.max(outputLine.at(at + i), 0);
        }
        return word;
    }

    public long digest() {
        long sum = 7;
        for (int i = 0; i < outputLine.length(); i++) {
            sum = sum * 31 + outputLine.at(i);
        }
        return sum;
    }

    public long read(boolean small) throws IllegalArgumentException {
        boolean sound = reader.take(small);
        rowLine.empty();
        if (!sound) {
            throw new IllegalArgumentException("the row is no number");
        }
        return reader.bits();
    }

    private void note(int fault, int at) {
        faultKind = fault;
        faultPlace = fault == Spec.SOUND ? -1 : at;
    }

    private static int byteOf(long w, int fromBelow) {
        return (int) (w >>> 8 * fromBelow) & 255;
    }

    /** A row of bytes with a fixed room. */
    private static final class Line {
        private final byte[] bytes;
        private int length;

        Line(int room) {
            bytes = new byte[room];
            length = 0;
        }

        int length() {
            return length;
        }

        /** The byte at i, 0 to 255, or -1 where there is none. */
        int at(int i) {
            return i < 0 || i >= length ? -1 : bytes[i] & 255;
        }

        boolean fits(int more) {
            return more <= bytes.length - length;
        }

        void add(int b) {
            if (length < bytes.length) {
                bytes[length] = (byte) b;
                length++;
            }
        }

        void addTimes(int b, int times) {
            int until = Math.min(times, bytes.length - length);
            for (int i = 0; i < until; i++) {
                add(b);
            }
        }

        void empty() {
            length = 0;
        }

        void moveFrom(Line other) {
            length = Math.min(other.length, bytes.length);
            System.arraycopy(other.bytes, 0, bytes, 0, length);
            other.empty();
        }
    }

    /** One spec of a format, taken apart; it is scanned anew wherever it is needed. */
    private static final class Spec {
        static final int SOUND = 0;
        static final int NEXT = 0;
        static final int PREVIOUS = -1;
        static final int LEFT = 1;
        static final int OTHER_FORM = 2;
        static final int PLUS = 4;
        static final int BLANK = 8;
        static final int ZEROS = 16;
        static final int COMMAS = 32;
        static final int PARENTHESES = 64;

        private static final int NO_CONVERSION = 1;
        private static final int FLAG_TWICE = 2;
        private static final int FLAG_NOT_TAKEN = 3;
        private static final int NO_WIDTH = 4;
        private static final int FLAGS_AGAINST = 5;
        private static final int WIDTH_NOT_TAKEN = 6;
        private static final int PRECISION_NOT_TAKEN = 7;

        /** The place of a letter is the power of two of its flag. */
        private static final String FLAG_LETTERS = "-#+ 0,(";
        private static final String CONVERSIONS = "bBsScCdoxXeEfgGaA%n";
        private static final String TIME_SUFFIXES = "HIklMSLYyCmdejBbAapsQRTrDF";
        private static final String WITHOUT_PRECISION = "cdoxt%n";
        private static final int NUMBER_DIGITS = 4;
        private static final int WIDEST = 2000;
        private static final int MOST_PRECISE = 1100;

        private int next;
        private int number;
        private int flags;
        private boolean flagTwice;
        private int width;
        private int precision;
        private int conversion;
        private int suffix;
        private boolean capital;

        /** Takes the spec apart whose % is at percent; answers its fault. */
        int scan(Line format, int percent) {
            next = percent + 1;
            boolean read = scanNumber(format);
            scanFlags(format);
            read = scanWidth(format) && read;
            read = scanPrecision(format) && read;
            read = scanConversion(format) && read;
            return read ? faultOfParts() : NO_CONVERSION;
        }

        private boolean scanNumber(Line format) {
            number = NEXT;
            if (format.at(next) == '<') {
                number = PREVIOUS;
                next++;
                return true;
            }
            int digits = digitsFrom(format, next);
            if (digits == 0 || format.at(next + digits) != '$') {
                return true;
            }
            boolean sound = digits <= NUMBER_DIGITS && format.at(next) != '0';
            number = valueOf(format, digits);
            next += digits + 1;
            return sound;
        }

        private void scanFlags(Line format) {
            flags = 0;
            flagTwice = false;
            for (int i = next; i < format.length(); i++) {
                int place = FLAG_LETTERS.indexOf((char) format.at(i));
                if (place < 0) {
                    return;
                }
                flagTwice = flagTwice || has(1 << place);
                flags |= 1 << place;
                next = i + 1;
            }
        }

        private boolean scanWidth(Line format) {
            int digits = digitsFrom(format, next);
            width = valueOf(format, digits);
            next += digits;
            return digits <= NUMBER_DIGITS && width <= WIDEST;
        }

        private boolean scanPrecision(Line format) {
            precision = -1;
            if (format.at(next) != '.') {
                return true;
            }
            next++;
            int digits = digitsFrom(format, next);
            precision = valueOf(format, digits);
            next += digits;
            return digits > 0 && digits <= NUMBER_DIGITS && precision <= MOST_PRECISE;
        }

        private boolean scanConversion(Line format) {
            int letter = format.at(next);
            next++;
            capital = letter >= 'A' && letter <= 'Z';
            conversion = capital ? letter + 'a' - 'A' : letter;
            if (conversion != 't') {
                return letter >= 0 && CONVERSIONS.indexOf((char) letter) >= 0;
            }
            suffix = format.at(next);
            next++;
            return suffix >= 0 && TIME_SUFFIXES.indexOf((char) suffix) >= 0;
        }

        private static int digitsFrom(Line format, int from) {
            int digits = 0;
            for (int i = from; i < format.length() && isDigit(format.at(i)); i++) {
                digits++;
            }
            return digits;
        }

        private static boolean isDigit(int b) {
            return b >= '0' && b <= '9';
        }

        /** The number of so many digits; of more than a number has the first ones, for those are a fault. */
        private int valueOf(Line format, int digits) {
            int value = 0;
            for (int i = 0; i < Math.min(digits, NUMBER_DIGITS); i++) {
                value = value * 10 + format.at(next + i) - '0';
            }
            return value;
        }

        private int faultOfParts() {
            if (flagTwice) {
                return FLAG_TWICE;
            }
            if ((flags & ~flagsTaken()) != 0) {
                return FLAG_NOT_TAKEN;
            }
            if (width == 0 && has(LEFT | ZEROS)) {
                return NO_WIDTH;
            }
            if (has(LEFT) && has(ZEROS) || has(PLUS) && has(BLANK)) {
                return FLAGS_AGAINST;
            }
            if (width > 0 && conversion == 'n') {
                return WIDTH_NOT_TAKEN;
            }
            boolean tooMuch = precision >= 0 && WITHOUT_PRECISION.indexOf((char) conversion) >= 0;
            return tooMuch ? PRECISION_NOT_TAKEN : SOUND;
        }

        private int flagsTaken() {
            switch (conversion) {
                case 'n':
                    return 0;
                case 'd':
                case 'g':
                    return LEFT | PLUS | BLANK | ZEROS | COMMAS | PARENTHESES;
                case 'o':
                case 'x':
                    return LEFT | OTHER_FORM | ZEROS;
                case 'e':
                    return LEFT | OTHER_FORM | PLUS | BLANK | ZEROS | PARENTHESES;
                case 'f':
                    return LEFT | OTHER_FORM | PLUS | BLANK | ZEROS | COMMAS | PARENTHESES;
                case 'a':
                    return LEFT | OTHER_FORM | PLUS | BLANK | ZEROS;
                default:
                    return LEFT;
            }
        }

        /** The place of the spec's last byte. */
        int last() {
            return next - 1;
        }

        int number() {
            return number;
        }

        /** Whether one of the flags of the mask is there. */
        boolean has(int mask) {
            return (flags & mask) != 0;
        }

        int width() {
            return width;
        }

        /** The precision, or -1 without one. */
        int precision() {
            return precision;
        }

        /** The conversion as a small letter. */
        int conversion() {
            return conversion;
        }

        boolean capital() {
            return capital;
        }

        int suffix() {
            return suffix;
        }
    }

    /** The arguments: of each its sort, and its value or, of a text, its length and bytes. */
    private static final class Arguments {
        static final int NOTHING = 0;
        static final int TRUTH = 1;
        static final int CHARACTER = 2;
        static final int WHOLE_8 = 3;
        static final int WHOLE_16 = 4;
        static final int WHOLE_32 = 5;
        static final int WHOLE_64 = 6;
        static final int REAL_64 = 7;
        static final int REAL_32 = 8;
        static final int TEXT = 9;
        static final int TEXT_ROOM = 200;

        private static final int MOST = 24;
        private static final long HIGHEST_CHARACTER = 1114111;

        private final int[] sorts = new int[MOST];
        private final long[] values = new long[MOST];
        private final byte[] texts = new byte[MOST * TEXT_ROOM];
        private int count;

        static boolean isCharacter(long v) {
            return v >= 0 && v <= HIGHEST_CHARACTER;
        }

        static long narrowed(int sort, long v) {
            switch (sort) {
                case NOTHING:
                    return 0;
                case WHOLE_8:
                    return (byte) v;
                case WHOLE_16:
                    return (short) v;
                case WHOLE_32:
                    return (int) v;
                default:
                    return v;
            }
        }

        static boolean isWhole(int sort) {
            return sort >= WHOLE_8 && sort <= WHOLE_64;
        }

        static boolean isReal(int sort) {
            return sort == REAL_64 || sort == REAL_32;
        }

        /** How many bits a whole one of this sort has. */
        static int bitsOf(int sort) {
            return 8 << Math.min(Math.max(sort, WHOLE_8), WHOLE_64) - WHOLE_8;
        }

        boolean full() {
            return count >= MOST;
        }

        int count() {
            return count;
        }

        int empty() {
            int before = count;
            count = 0;
            return before;
        }

        int add(int sort, long value) {
            if (!full()) {
                sorts[count] = sort;
                values[count] = value;
                count++;
            }
            return count;
        }

        int addText(Line line) {
            int length = Math.min(line.length(), TEXT_ROOM);
            if (!full()) {
                for (int i = 0; i < length; i++) {
                    texts[count * TEXT_ROOM + i] = (byte) line.at(i);
                }
            }
            return add(TEXT, length);
        }

        /** The sort of the argument with this number, from 1 on. */
        int sort(int number) {
            return number < 1 || number > count ? NOTHING : sorts[number - 1];
        }

        /** Its value; of a text how long it is. */
        long value(int number) {
            return number < 1 || number > count ? 0 : values[number - 1];
        }

        int textByte(int number, int i) {
            boolean there = number >= 1 && number <= count && i >= 0 && i < TEXT_ROOM;
            return there ? texts[(number - 1) * TEXT_ROOM + i] : 0;
        }
    }

    /** What one spec writes, before it is filled up to the width. */
    private static final class Piece {
        /** The longest: 309 digits with 102 commas, a point, 1100 digits, and two for the sign. */
        private static final int ROOM = 1600;

        private final byte[] bytes = new byte[ROOM];
        private int length;
        /** How many bytes go on with a character that another one began. */
        private int goingOn;
        /** Where zeros that fill go, or -1 if blanks do. */
        private int zerosAt;

        void start() {
            length = 0;
            goingOn = 0;
            zerosAt = -1;
        }

        void add(int b) {
            if (length < ROOM) {
                bytes[length] = (byte) b;
                length++;
            }
        }

        void addAll(String characters) {
            addFirst(characters, characters.length());
        }

        void addFirst(String characters, int count) {
            for (int i = 0; i < Math.min(count, characters.length()); i++) {
                add(characters.charAt(i));
            }
        }

        /** A digit of sixteen. */
        void addDigit(int digit) {
            add(digit < 10 ? '0' + digit : 'a' - 10 + digit);
        }

        void addZeros(int times) {
            for (int i = 0; i < Math.min(times, ROOM); i++) {
                add('0');
            }
        }

        void open(boolean negative, Spec spec) {
            if (negative) {
                add(spec.has(Spec.PARENTHESES) ? '(' : '-');
            } else if (spec.has(Spec.PLUS)) {
                add('+');
            } else if (spec.has(Spec.BLANK)) {
                add(' ');
            }
        }

        void close(boolean negative, Spec spec) {
            if (negative && spec.has(Spec.PARENTHESES)) {
                add(')');
            }
        }

        /** From here on zeros fill, if the spec wants them. */
        void markZeros(Spec spec) {
            zerosAt = spec.has(Spec.ZEROS) ? length : -1;
        }

        /** The decimal digits of v without its sign, so many at least. */
        void addSize(long v, int atLeast, boolean commas) {
            // below 0, for the lowest long has no size that is a long
            long rest = v < 0 ? v : -v;
            boolean begun = false;
            for (int i = Decimal.TENS.length - 1; i >= 0; i--) {
                int digit = (int) -(rest / Decimal.TENS[i] % 10);
                begun = begun || digit != 0 || i < atLeast;
                if (begun) {
                    add('0' + digit);
                }
                if (begun && commas && i > 0 && i % 3 == 0) {
                    add(',');
                }
            }
        }

        void addSigned(long v) {
            if (v < 0) {
                add('-');
            }
            addSize(v, 1, false);
        }

        /** The low bits of v in base 8 or 16, the bits of a digit being three or four. */
        void addBits(long v, int bits, int digitBits) {
            long kept = bits >= 64 ? v : v & (1L << bits) - 1;
            boolean begun = false;
            for (int shift = 63 / digitBits * digitBits; shift >= 0; shift -= digitBits) {
                int digit = (int) (kept >>> shift) & (1 << digitBits) - 1;
                begun = begun || digit != 0 || shift == 0;
                if (begun) {
                    addDigit(digit);
                }
            }
        }

        void addCharacter(int c) {
            if (c < 0x80) {
                add(c);
            } else if (c < 0x800) {
                add(0xC0 | c >> 6);
                addContinuation(c);
            } else if (c < 0x10000) {
                add(0xE0 | c >> 12);
                addContinuation(c >> 6);
                addContinuation(c);
            } else {
                add(0xF0 | c >> 18);
                addContinuation(c >> 12);
                addContinuation(c >> 6);
                addContinuation(c);
            }
        }

        private void addContinuation(int sixBits) {
            add(0x80 | sixBits & 63);
            goingOn++;
        }

        /** Keeps the first characters alone; fewer than 0 keep all. */
        void cut(int characters) {
            if (characters < 0) {
                return;
            }
            int begun = 0;
            for (int i = 0; i < length; i++) {
                boolean begins = (bytes[i] & 0xC0) != 0x80;
                if (begins && begun == characters) {
                    length = i;
                    goingOn = i - begun;
                    return;
                }
                begun += begins ? 1 : 0;
            }
        }

        void toCapitals() {
            for (int i = 0; i < length; i++) {
                if (bytes[i] >= 'a' && bytes[i] <= 'z') {
                    bytes[i] += 'A' - 'a';
                }
            }
        }

        /** Writes it, filled up to the width; answers false, and writes nothing, where there is no room. */
        boolean writeTo(Line output, int width, boolean left) {
            int fill = Math.max(width - (length - goingOn), 0);
            if (!output.fits(length + fill)) {
                return false;
            }
            int fillAt = left ? length : Math.max(zerosAt, 0);
            for (int i = 0; i < fillAt; i++) {
                output.add(bytes[i]);
            }
            output.addTimes(zerosAt >= 0 ? '0' : ' ', fill);
            for (int i = fillAt; i < length; i++) {
                output.add(bytes[i]);
            }
            return true;
        }
    }

    /** The exact decimal digits of a whole number times a power of two. */
    private static final class Decimal {
        /** So many digits are looked at when the shortest decimal is sought. */
        static final int HEAD_DIGITS = 18;
        static final long[] TENS = {
            1L, 10L, 100L, 1000L, 10000L, 100000L, 1000000L, 10000000L, 100000000L, 1000000000L, 10000000000L,
            100000000000L, 1000000000000L, 10000000000000L, 100000000000000L, 1000000000000000L,
            10000000000000000L, 100000000000000000L, 1000000000000000000L
        };

        private static final int LIMB_DIGITS = 9;
        private static final long LIMB_BASE = 1000000000L;
        /** 767 digits are the most of a double; those of its neighbours' halves are few more. */
        private static final int LIMBS = 96;
        private static final int FIVES_AT_ONCE = 13;
        private static final int TWOS_AT_ONCE = 30;

        private final long[] limbs = new long[LIMBS];
        private int used;
        private final byte[] digits = new byte[LIMBS * LIMB_DIGITS];
        private int count;
        /** The value is 0.ddd times 10 to the point. */
        private int point;

        /** Takes size times 2 to the exponent, size being 0 or more. */
        void load(long size, int exponent) {
            long odd = size;
            int twos = exponent;
            // what can be halved needs fewer fives
            for (int i = 0; i < 64 && twos < 0 && odd != 0 && odd % 2 == 0; i++) {
                odd /= 2;
                twos++;
            }
            used = 0;
            for (long rest = odd; rest > 0 && used < 3; rest /= LIMB_BASE) {
                limbs[used] = rest % LIMB_BASE;
                used++;
            }
            int base = twos < 0 ? 5 : 2;
            int atOnce = twos < 0 ? FIVES_AT_ONCE : TWOS_AT_ONCE;
            for (int left = Math.abs(twos); left > 0; left -= atOnce) {
                multiply(power(base, Math.min(left, atOnce)));
            }
            spread(Math.min(twos, 0));
        }

        static long power(int base, int times) {
            long product = 1;
            for (int i = 0; i < times; i++) {
                product *= base;
            }
            return product;
        }

        private void multiply(long factor) {
            long carry = 0;
            for (int i = 0; i < used; i++) {
                long sum = limbs[i] * factor + carry;
                carry = sum / LIMB_BASE;
                limbs[i] = sum - carry * LIMB_BASE;
            }
            for (int i = 0; i < 2 && carry > 0 && used < LIMBS; i++) {
                limbs[used] = carry % LIMB_BASE;
                carry /= LIMB_BASE;
                used++;
            }
        }

        /** Makes digits of the limbs, the last one being worth 10 to the power. */
        private void spread(int power) {
            count = 0;
            for (int i = used - 1; i >= 0; i--) {
                for (int place = LIMB_DIGITS - 1; place >= 0; place--) {
                    int digit = (int) (limbs[i] / TENS[place] % 10);
                    if (count > 0 || digit > 0) {
                        digits[count] = (byte) digit;
                        count++;
                    }
                }
            }
            point = count == 0 ? 1 : count + power;
        }

        int point() {
            return point;
        }

        /** The digit i, from 0 on behind the point of 0.ddd; 0 where there is none. */
        int digitAt(int i) {
            return i < 0 || i >= count ? 0 : digits[i];
        }

        /** Rounds to so many digits, a half upwards. */
        void round(int keep) {
            if (keep >= count) {
                return;
            }
            boolean up = keep >= 0 && digits[keep] >= 5;
            count = Math.max(keep, 0);
            if (up) {
                countUp();
            } else if (count == 0) {
                point = 1;
            }
        }

        private void countUp() {
            for (int i = count - 1; i >= 0; i--) {
                if (digits[i] < 9) {
                    digits[i]++;
                    return;
                }
                digits[i] = 0;
            }
            digits[0] = 1;
            count = Math.max(count, 1);
            point++;
        }

        /** The value times 10 to the (18 - at), without what is behind the point; at is near the value's own point. */
        long head(int at) {
            long sum = 0;
            for (int i = 0; i < headDigits(at); i++) {
                sum = sum * 10 + digitAt(i);
            }
            return sum;
        }

        /** Whether head leaves something out. */
        boolean goesOn(int at) {
            for (int i = headDigits(at); i < count; i++) {
                if (digitAt(i) != 0) {
                    return true;
                }
            }
            return false;
        }

        private int headDigits(int at) {
            return Math.min(Math.max(HEAD_DIGITS - at + point, 0), HEAD_DIGITS + 1);
        }
    }

    /** The shortest decimal that reads back as a real. */
    private static final class Shortest {
        private static final int FEWEST = 2;
        private static final int MOST = 17;
        private static final int PLAIN_FROM = -2;
        private static final int PLAIN_TO = 7;

        private long value;
        private boolean valueGoesOn;
        private long low;
        private boolean lowGoesOn;
        private long high;
        private boolean highGoesOn;
        private boolean edgesRead;
        private int point;

        /** Writes size times 2 to the exponent, which is not 0; low edge at a quarter if it is near. */
        void write(Piece piece, Decimal decimal, long size, int exponent, boolean lowIsNear) {
            edgesRead = size % 2 == 0;
            decimal.load(4 * size, exponent - 2);
            point = decimal.point();
            value = decimal.head(point);
            valueGoesOn = decimal.goesOn(point);
            decimal.load(4 * size - (lowIsNear ? 1 : 2), exponent - 2);
            low = decimal.head(point);
            lowGoesOn = decimal.goesOn(point);
            decimal.load(4 * size + 2, exponent - 2);
            high = decimal.head(point);
            highGoesOn = decimal.goesOn(point);
            long digits = find();
            if (digits == Decimal.TENS[Decimal.HEAD_DIGITS]) {
                digits /= 10;
                point++;
            }
            if (point >= PLAIN_FROM && point <= PLAIN_TO) {
                writePlain(piece, digits, point);
            } else {
                writePlain(piece, digits, 1);
                piece.addAll(point < 1 ? "E-" : "E");
                piece.addSize(point - 1, 1, false);
            }
        }

        /** The decimal as head, with 18 digits, or 10 to the 18. */
        private long find() {
            for (int digits = FEWEST; digits < MOST; digits++) {
                long unit = Decimal.TENS[Decimal.HEAD_DIGITS - digits];
                long below = value - value % unit;
                boolean exact = below == value && !valueGoesOn;
                long above = exact ? below : below + unit;
                boolean belowReads = exact || readsFromBelow(below);
                boolean aboveReads = exact || readsFromAbove(above);
                if (belowReads && aboveReads) {
                    return nearer(below, above, unit);
                }
                if (belowReads || aboveReads) {
                    return belowReads ? below : above;
                }
            }
            long unit = Decimal.TENS[Decimal.HEAD_DIGITS - MOST];
            long below = value - value % unit;
            return nearer(below, below + unit, unit);
        }

        private boolean readsFromBelow(long decimal) {
            return decimal > low || decimal == low && edgesRead && !lowGoesOn;
        }

        private boolean readsFromAbove(long decimal) {
            return decimal < high || decimal == high && (edgesRead || highGoesOn);
        }

        private long nearer(long below, long above, long unit) {
            long twice = 2 * (value - below);
            if (twice == unit && !valueGoesOn) {
                return below / unit % 2 == 0 ? below : above;
            }
            return twice >= unit ? above : below;
        }

        /** Writes 0.ddd of the 18 digits times 10 to before, with a digit on both sides of the point. */
        private static void writePlain(Piece piece, long digits, int before) {
            if (before <= 0) {
                piece.add('0');
            }
            for (int i = 0; i < before; i++) {
                piece.add(digitOf(digits, i));
            }
            piece.add('.');
            for (int i = before; i < Math.max(endOf(digits), before + 1); i++) {
                piece.add(digitOf(digits, i));
            }
        }

        /** The place behind the last digit that is not 0. */
        private static int endOf(long digits) {
            int end = Decimal.HEAD_DIGITS;
            for (long rest = digits; end > 0 && rest % 10 == 0; rest /= 10) {
                end--;
            }
            return end;
        }

        private static int digitOf(long digits, int i) {
            boolean there = i >= 0 && i < Decimal.HEAD_DIGITS;
            return there ? '0' + (int) (digits / Decimal.TENS[Decimal.HEAD_DIGITS - 1 - i] % 10) : '0';
        }
    }

    /** Writes reals by e, f, g, a and s. */
    private static final class RealWriter {
        private static final int USUAL_PRECISION = 6;
        private static final int LOWEST_PLAIN_POWER = -4;
        private static final int SIXTEENS = 13;
        private static final int FRACTION_BITS = 52;
        private static final int LOWEST_EXPONENT = -1074;
        private static final int SMALL_FRACTION_BITS = 23;
        private static final int SMALL_LOWEST_EXPONENT = -149;

        private final Decimal decimal = new Decimal();
        private final Shortest shortest = new Shortest();
        private boolean negative;
        private boolean notANumber;
        private boolean infinite;
        /** The value is size times 2 to the exponent. */
        private long size;
        private int exponent;
        /** Whether the next real below is only half as far as that above. */
        private boolean lowIsNear;

        private void take(long bits, boolean small) {
            if (small) {
                split(bits & 0xFFFFFFFFL, SMALL_FRACTION_BITS, 8, SMALL_LOWEST_EXPONENT);
            } else {
                split(bits, FRACTION_BITS, 11, LOWEST_EXPONENT);
            }
        }

        private void split(long bits, int fractionBits, int exponentBits, int lowestExponent) {
            int highest = (1 << exponentBits) - 1;
            int biased = (int) (bits >>> fractionBits) & highest;
            long fraction = bits & (1L << fractionBits) - 1;
            negative = (bits >>> fractionBits + exponentBits & 1) != 0;
            notANumber = biased == highest && fraction != 0;
            infinite = biased == highest && fraction == 0;
            size = biased == 0 ? fraction : fraction | 1L << fractionBits;
            exponent = lowestExponent + Math.max(biased, 1) - 1;
            lowIsNear = fraction == 0 && biased > 1;
        }

        /** As by s: the shortest decimal. */
        void writeShortest(Piece piece, long bits, boolean small) {
            take(bits, small);
            if (notANumber) {
                piece.addAll("NaN");
                return;
            }
            if (negative) {
                piece.add('-');
            }
            if (infinite) {
                piece.addAll("Infinity");
            } else if (size == 0) {
                piece.addAll("0.0");
            } else {
                shortest.write(piece, decimal, size, exponent, lowIsNear);
            }
        }

        /** As by e, f, g or a. */
        void write(Piece piece, Spec spec, long bits, boolean small) {
            take(bits, small);
            if (notANumber) {
                piece.addAll("NaN");
                return;
            }
            piece.open(negative, spec);
            if (infinite) {
                piece.addAll("Infinity");
            } else if (spec.conversion() == 'a') {
                writeSixteens(piece, spec);
            } else {
                piece.markZeros(spec);
                decimal.load(size, exponent);
                writeDecimal(piece, spec);
            }
            piece.close(negative, spec);
        }

        private void writeDecimal(Piece piece, Spec spec) {
            int precision = spec.precision() < 0 ? USUAL_PRECISION : spec.precision();
            if (spec.conversion() == 'e') {
                decimal.round(precision + 1);
                writeScientific(piece, spec, precision);
                return;
            }
            if (spec.conversion() == 'f') {
                decimal.round(decimal.point() + precision);
                writeFixed(piece, spec, precision);
                return;
            }
            int digits = Math.max(precision, 1);
            decimal.round(digits);
            int power = decimal.point() - 1;
            if (power >= LOWEST_PLAIN_POWER && power < digits) {
                writeFixed(piece, spec, digits - 1 - power);
            } else {
                writeScientific(piece, spec, digits - 1);
            }
        }

        private void writeFixed(Piece piece, Spec spec, int decimals) {
            int before = decimal.point();
            if (before <= 0) {
                piece.add('0');
            }
            for (int i = 0; i < before; i++) {
                piece.add('0' + decimal.digitAt(i));
                int left = before - 1 - i;
                if (spec.has(Spec.COMMAS) && left > 0 && left % 3 == 0) {
                    piece.add(',');
                }
            }
            writeBehindPoint(piece, spec, before, decimals);
        }

        private void writeScientific(Piece piece, Spec spec, int decimals) {
            piece.add('0' + decimal.digitAt(0));
            writeBehindPoint(piece, spec, 1, decimals);
            int power = decimal.point() - 1;
            piece.add('e');
            piece.add(power < 0 ? '-' : '+');
            piece.addSize(power, 2, false);
        }

        private void writeBehindPoint(Piece piece, Spec spec, int from, int decimals) {
            if (decimals > 0 || spec.has(Spec.OTHER_FORM)) {
                piece.add('.');
            }
            for (int i = 0; i < decimals; i++) {
                piece.add('0' + decimal.digitAt(from + i));
            }
        }

        private void writeSixteens(Piece piece, Spec spec) {
            piece.addAll("0x");
            piece.markZeros(spec);
            int precision = spec.precision() == 0 ? 1 : spec.precision();
            boolean zero = size == 0;
            align();
            if (precision > 0 && precision < SIXTEENS) {
                roundSixteens(precision);
            }
            piece.addDigit((int) (size >>> FRACTION_BITS));
            piece.add('.');
            int digits = precision > 0 ? precision : sixteensNeeded();
            for (int i = 1; i <= Math.min(digits, SIXTEENS); i++) {
                piece.addDigit((int) (size >>> FRACTION_BITS - 4 * i) & 15);
            }
            piece.addZeros(digits - SIXTEENS);
            piece.add('p');
            piece.addSigned(zero ? 0 : exponent + FRACTION_BITS);
        }

        /** Brings the first bit to the place of a double's first bit, or as near as its exponent allows. */
        private void align() {
            for (int i = 0; i < FRACTION_BITS && size >>> FRACTION_BITS == 0 && exponent > LOWEST_EXPONENT; i++) {
                size <<= 1;
                exponent--;
            }
        }

        private void roundSixteens(int digits) {
            int dropped = 4 * (SIXTEENS - digits);
            long half = 1L << dropped - 1;
            long kept = size >>> dropped;
            long rest = size - (kept << dropped);
            boolean up = rest > half || rest == half && kept % 2 != 0;
            size = (up ? kept + 1 : kept) << dropped;
            if (size >>> FRACTION_BITS > 1) {
                size >>>= 1;
                exponent++;
            }
        }

        private int sixteensNeeded() {
            int digits = SIXTEENS;
            while (digits > 1 && (size >>> FRACTION_BITS - 4 * digits & 15) == 0) {
                digits--;
            }
            return digits;
        }
    }

    /** A day and a time of the Gregorian calendar, from milliseconds. */
    private static final class Moment {
        private static final long DAY_MILLIS = 86400000L;
        private static final long DAYS_OF_400_YEARS = 146097L;
        /** From the first of March of the year 0 to 1970. */
        private static final long DAYS_TO_1970 = 719468L;
        private static final int DAYS_BEFORE_MARCH = 59;
        private static final int DAYS_FROM_MARCH = 306;

        private long millis;
        private int millisOfDay;
        private long year;
        private int month;
        private int day;
        private int dayOfYear;
        /** 0 is Sunday. */
        private int weekday;

        void take(long sinceTheEpoch) {
            millis = sinceTheEpoch;
            millisOfDay = (int) Math.floorMod(millis, DAY_MILLIS);
            long days = Math.floorDiv(millis, DAY_MILLIS);
            // the first of January 1970 was a Thursday
            weekday = (int) Math.floorMod(days + 4, 7L);
            takeDay(days + DAYS_TO_1970);
        }

        /** Years are counted from March on here, for then the leap day is the last one. */
        private void takeDay(long days) {
            long cycle = Math.floorDiv(days, DAYS_OF_400_YEARS);
            int left = (int) Math.floorMod(days, DAYS_OF_400_YEARS);
            int marchYear = (left - left / 1460 + left / 36524 - left / 146096) / 365;
            int dayFromMarch = left - (365 * marchYear + marchYear / 4 - marchYear / 100);
            int monthFromMarch = (5 * dayFromMarch + 2) / 153;
            day = dayFromMarch - (153 * monthFromMarch + 2) / 5 + 1;
            month = monthFromMarch < 10 ? monthFromMarch + 3 : monthFromMarch - 9;
            year = cycle * 400 + marchYear + (month <= 2 ? 1 : 0);
            int leapDay = isLeapYear() ? 1 : 0;
            dayOfYear = 1 + (month <= 2 ? dayFromMarch - DAYS_FROM_MARCH : dayFromMarch + DAYS_BEFORE_MARCH + leapDay);
        }

        private boolean isLeapYear() {
            return year % 4 == 0 && (year % 100 != 0 || year % 400 == 0);
        }

        void write(Piece piece, int suffix) {
            switch (suffix) {
                case 'R':
                    writeTimes(piece, "HM");
                    return;
                case 'T':
                    writeTimes(piece, "HMS");
                    return;
                case 'r':
                    writeTimes(piece, "IMS");
                    piece.addAll(hour() < 12 ? " AM" : " PM");
                    return;
                case 'D':
                    piece.addSize(month, 2, false);
                    piece.add('/');
                    piece.addSize(day, 2, false);
                    piece.add('/');
                    writeYear(piece, 'y');
                    return;
                case 'F':
                    writeYear(piece, 'Y');
                    piece.add('-');
                    piece.addSize(month, 2, false);
                    piece.add('-');
                    piece.addSize(day, 2, false);
                    return;
                default:
                    writePart(piece, suffix);
            }
        }

        private void writeTimes(Piece piece, String suffixes) {
            for (int i = 0; i < suffixes.length(); i++) {
                if (i > 0) {
                    piece.add(':');
                }
                writeTime(piece, suffixes.charAt(i));
            }
        }

        private void writePart(Piece piece, int suffix) {
            switch (suffix) {
                case 'Y':
                case 'y':
                case 'C':
                    writeYear(piece, suffix);
                    return;
                case 'm':
                    piece.addSize(month, 2, false);
                    return;
                case 'd':
                    piece.addSize(day, 2, false);
                    return;
                case 'e':
                    piece.addSize(day, 1, false);
                    return;
                case 'j':
                    piece.addSize(dayOfYear, 3, false);
                    return;
                case 'B':
                    piece.addAll(monthName());
                    return;
                case 'b':
                    piece.addFirst(monthName(), 3);
                    return;
                case 'A':
                    piece.addAll(dayName());
                    return;
                case 'a':
                    piece.addFirst(dayName(), 3);
                    return;
                case 'p':
                    piece.addAll(hour() < 12 ? "am" : "pm");
                    return;
                case 's':
                    piece.addSigned(Math.floorDiv(millis, 1000L));
                    return;
                case 'Q':
                    piece.addSigned(millis);
                    return;
                default:
                    writeTime(piece, suffix);
            }
        }

        /** Y, y or else C. */
        private void writeYear(Piece piece, int suffix) {
            switch (suffix) {
                case 'Y':
                    if (year < 0) {
                        piece.add('-');
                    }
                    piece.addSize(year, 4, false);
                    return;
                case 'y':
                    piece.addSize(year % 100, 2, false);
                    return;
                default:
                    piece.addSize(year / 100, 2, false);
            }
        }

        /** H, I, k, l, M, S or else L. */
        private void writeTime(Piece piece, int suffix) {
            switch (suffix) {
                case 'H':
                    piece.addSize(hour(), 2, false);
                    return;
                case 'I':
                    piece.addSize(hourOfTwelve(), 2, false);
                    return;
                case 'k':
                    piece.addSize(hour(), 1, false);
                    return;
                case 'l':
                    piece.addSize(hourOfTwelve(), 1, false);
                    return;
                case 'M':
                    piece.addSize(millisOfDay / 60000 % 60, 2, false);
                    return;
                case 'S':
                    piece.addSize(millisOfDay / 1000 % 60, 2, false);
                    return;
                default:
                    piece.addSize(millisOfDay % 1000, 3, false);
            }
        }

        private int hour() {
            return millisOfDay / 3600000;
        }

        private int hourOfTwelve() {
            return (hour() + 11) % 12 + 1;
        }

        private String monthName() {
            switch (month) {
                case 1:
                    return "January";
                case 2:
                    return "February";
                case 3:
                    return "March";
                case 4:
                    return "April";
                case 5:
                    return "May";
                case 6:
                    return "June";
                case 7:
                    return "July";
                case 8:
                    return "August";
                case 9:
                    return "September";
                case 10:
                    return "October";
                case 11:
                    return "November";
                default:
                    return "December";
            }
        }

        private String dayName() {
            switch (weekday) {
                case 0:
                    return "Sunday";
                case 1:
                    return "Monday";
                case 2:
                    return "Tuesday";
                case 3:
                    return "Wednesday";
                case 4:
                    return "Thursday";
                case 5:
                    return "Friday";
                default:
                    return "Saturday";
            }
        }
    }

    /** Writes what the specs of a format make of the arguments, one after the other. */
    private static final class Composer {
        private static final int NO_ARGUMENT = 8;
        private static final int OTHER_KIND = 9;
        private static final int NO_CHARACTER = 10;
        private static final int TOO_LONG = 11;

        private final Spec spec;
        private final Arguments arguments;
        private final Line output;
        private final Piece piece = new Piece();
        private final RealWriter reals = new RealWriter();
        private final Moment moment = new Moment();
        /** The last argument taken by a spec without a number. */
        private int ordinary;
        /** The argument of the latest spec that took one, 0 before. */
        private int latest;
        private int sort;
        private long value;

        Composer(Spec spec, Arguments arguments, Line output) {
            this.spec = spec;
            this.arguments = arguments;
            this.output = output;
        }

        void begin() {
            ordinary = 0;
            latest = 0;
        }

        /** Writes a byte that stands for itself; answers the fault. */
        int copy(int b) {
            if (!output.fits(1)) {
                return TOO_LONG;
            }
            output.add(b);
            return Spec.SOUND;
        }

        /** Writes what the spec says; answers the fault. */
        int press() {
            piece.start();
            if (spec.conversion() == '%') {
                piece.add('%');
            } else if (spec.conversion() == 'n') {
                piece.add(10);
            } else {
                int fault = choose();
                if (fault != Spec.SOUND) {
                    return fault;
                }
                writeArgument();
            }
            if (spec.capital()) {
                piece.toCapitals();
            }
            return piece.writeTo(output, spec.width(), spec.has(Spec.LEFT)) ? Spec.SOUND : TOO_LONG;
        }

        /** Chooses the argument and looks whether it goes with the conversion; answers the fault. */
        private int choose() {
            int number = pick();
            if (number < 1 || number > arguments.count()) {
                return NO_ARGUMENT;
            }
            latest = number;
            sort = arguments.sort(number);
            value = arguments.value(number);
            if (!goesTogether()) {
                return OTHER_KIND;
            }
            return spec.conversion() == 'c' && !Arguments.isCharacter(value) ? NO_CHARACTER : Spec.SOUND;
        }

        private int pick() {
            if (spec.number() == Spec.PREVIOUS) {
                return latest;
            }
            if (spec.number() != Spec.NEXT) {
                return spec.number();
            }
            ordinary++;
            return ordinary;
        }

        private boolean goesTogether() {
            if (sort == Arguments.NOTHING) {
                return true;
            }
            switch (spec.conversion()) {
                case 'c':
                    return sort == Arguments.CHARACTER || Arguments.isWhole(sort) && sort != Arguments.WHOLE_64;
                case 'd':
                case 'o':
                case 'x':
                    return Arguments.isWhole(sort);
                case 'e':
                case 'f':
                case 'g':
                case 'a':
                    return Arguments.isReal(sort);
                case 't':
                    return sort == Arguments.WHOLE_64;
                default:
                    return true;
            }
        }

        private void writeArgument() {
            if (sort == Arguments.NOTHING) {
                piece.addAll(spec.conversion() == 'b' ? "false" : "null");
                piece.cut(spec.precision());
                return;
            }
            switch (spec.conversion()) {
                case 'b':
                    piece.addAll(sort == Arguments.TRUTH && value == 0 ? "false" : "true");
                    piece.cut(spec.precision());
                    return;
                case 's':
                    writeAny();
                    piece.cut(spec.precision());
                    return;
                case 'c':
                    piece.addCharacter((int) value);
                    return;
                case 'd':
                    writeWhole();
                    return;
                case 'o':
                    writeBits("0", 3);
                    return;
                case 'x':
                    writeBits("0x", 4);
                    return;
                case 't':
                    moment.take(value);
                    moment.write(piece, spec.suffix());
                    return;
                default:
                    reals.write(piece, spec, value, sort == Arguments.REAL_32);
            }
        }

        /** As by s. */
        private void writeAny() {
            switch (sort) {
                case Arguments.TRUTH:
                    piece.addAll(value == 0 ? "false" : "true");
                    return;
                case Arguments.CHARACTER:
                    piece.addCharacter((int) value);
                    return;
                case Arguments.REAL_64:
                case Arguments.REAL_32:
                    reals.writeShortest(piece, value, sort == Arguments.REAL_32);
                    return;
                case Arguments.TEXT:
                    for (int i = 0; i < Math.min(value, Arguments.TEXT_ROOM); i++) {
                        piece.add(arguments.textByte(latest, i));
                    }
                    return;
                default:
                    piece.addSigned(value);
            }
        }

        private void writeWhole() {
            piece.open(value < 0, spec);
            piece.markZeros(spec);
            piece.addSize(value, 1, spec.has(Spec.COMMAS));
            piece.close(value < 0, spec);
        }

        private void writeBits(String before, int digitBits) {
            if (spec.has(Spec.OTHER_FORM)) {
                piece.addAll(before);
            }
            piece.markZeros(spec);
            piece.addBits(value, Arguments.bitsOf(sort), digitBits);
        }
    }

    /** Reads a row of bytes as a real. */
    private static final class NumberReader {
        private static final int HIGHEST_BLANK = 32;
        /** Makes a small letter of a capital one. */
        private static final int SMALL_LETTER = 32;
        private static final long NAN = 0x7FF8000000000000L;
        private static final long SMALL_NAN = 0x7FC00000L;
        private static final long SIGN = 0x8000000000000000L;
        private static final long SMALL_SIGN = 0x80000000L;
        /** Far beyond all that the digits of a row can make good. */
        private static final int HIGHEST_EXPONENT = 100000;
        /** Beyond these powers of ten all is Infinity, or 0. */
        private static final int HIGHEST_TENS = 400;
        private static final int LOWEST_TENS = -400;
        /** Digits are gathered up to this weight before the long number is multiplied. */
        private static final int WEIGHT_ENOUGH = 100000000;

        private final Line line;
        private final Binary binary = new Binary();
        private boolean small;
        private int at;
        private int end;
        private boolean negative;
        private int digits;
        private int digitsBehindPoint;
        private int digitsFromFirst;
        private int exponent;
        private long bits;

        NumberReader(Line line) {
            this.line = line;
        }

        /** The bits of what was read; of 32 bits as an int with its sign. */
        long bits() {
            return bits;
        }

        /** Reads the line; answers whether it is a number. */
        boolean take(boolean asSmall) {
            small = asSmall;
            trim();
            negative = takeSign();
            if (isRest("NaN")) {
                bits = small ? SMALL_NAN : NAN;
                return true;
            }
            if (isRest("Infinity")) {
                bits = signed(Binary.infinity(small));
                return true;
            }
            boolean sixteens = peek() == '0' && at + 1 < end && (line.at(at + 1) | SMALL_LETTER) == 'x';
            at += sixteens ? 2 : 0;
            takeDigits(sixteens ? 16 : 10);
            boolean sound = takeExponent(sixteens) && digits > 0;
            takeSuffix();
            if (!sound || at < end) {
                return false;
            }
            bits = signed(sixteens ? valueOfSixteens() : valueOfTens());
            return true;
        }

        private void trim() {
            at = 0;
            end = line.length();
            while (at < end && line.at(at) <= HIGHEST_BLANK) {
                at++;
            }
            while (end > at && line.at(end - 1) <= HIGHEST_BLANK) {
                end--;
            }
        }

        private int peek() {
            return at < end ? line.at(at) : -1;
        }

        /** Goes over a sign, if one is there; answers whether it is -. */
        private boolean takeSign() {
            int sign = peek();
            if (sign == '+' || sign == '-') {
                at++;
            }
            return sign == '-';
        }

        private boolean isRest(String word) {
            if (end - at != word.length()) {
                return false;
            }
            for (int i = 0; i < word.length(); i++) {
                if (line.at(at + i) != word.charAt(i)) {
                    return false;
                }
            }
            return true;
        }

        private void takeDigits(int base) {
            binary.empty();
            digits = 0;
            digitsBehindPoint = 0;
            digitsFromFirst = 0;
            boolean behindPoint = false;
            int weight = 1;
            int gathered = 0;
            for (; at < end; at++) {
                int digit = digitOf(peek(), base);
                if (digit < 0 && (behindPoint || peek() != '.')) {
                    break;
                }
                if (digit < 0) {
                    behindPoint = true;
                    continue;
                }
                countDigit(digit, behindPoint);
                gathered = gathered * base + digit;
                weight *= base;
                if (weight >= WEIGHT_ENOUGH) {
                    binary.multiplyAdd(weight, gathered);
                    weight = 1;
                    gathered = 0;
                }
            }
            binary.multiplyAdd(weight, gathered);
        }

        private void countDigit(int digit, boolean behindPoint) {
            digits++;
            digitsBehindPoint += behindPoint ? 1 : 0;
            digitsFromFirst += digit > 0 || digitsFromFirst > 0 ? 1 : 0;
        }

        /** The digit that the byte is, or -1. */
        private static int digitOf(int b, int base) {
            if (b >= '0' && b <= '9') {
                return b - '0';
            }
            int letter = b | SMALL_LETTER;
            return base == 16 && letter >= 'a' && letter <= 'f' ? letter - 'a' + 10 : -1;
        }

        /** Goes over the exponent, which must be there behind sixteens; answers whether it is sound. */
        private boolean takeExponent(boolean sixteens) {
            exponent = 0;
            if ((peek() | SMALL_LETTER) != (sixteens ? 'p' : 'e')) {
                return !sixteens;
            }
            at++;
            boolean below = takeSign();
            int from = at;
            for (; at < end && digitOf(peek(), 10) >= 0; at++) {
                exponent = Math.min(exponent * 10 + digitOf(peek(), 10), HIGHEST_EXPONENT);
            }
            exponent = below ? -exponent : exponent;
            return at > from;
        }

        private void takeSuffix() {
            int letter = peek() | SMALL_LETTER;
            if (letter == 'f' || letter == 'd') {
                at++;
            }
        }

        private long valueOfSixteens() {
            return binary.rounded(exponent - 4 * digitsBehindPoint, small);
        }

        private long valueOfTens() {
            int power = exponent - digitsBehindPoint;
            int tens = digitsFromFirst + power;
            if (digitsFromFirst == 0 || tens < LOWEST_TENS) {
                return 0;
            }
            if (tens > HIGHEST_TENS) {
                return Binary.infinity(small);
            }
            if (power < 0) {
                binary.divideByFives(-power);
            } else {
                binary.multiplyByFives(power);
            }
            return binary.rounded(power, small);
        }

        private long signed(long size) {
            if (!negative) {
                return size;
            }
            return small ? (int) (size | SMALL_SIGN) : size | SIGN;
        }
    }

    /** A long whole number in words of 32 bits, with what is left of divisions as yes or no. */
    private static final class Binary {
        /** 800 digits of sixteen are 100 words; 5 to the 1200 and what its division needs are fewer. */
        private static final int WORDS = 128;
        private static final int WORD_BITS = 32;
        private static final long WORD_MASK = 0xFFFFFFFFL;
        private static final int FIVES_AT_ONCE = 13;
        /** More bits than a double's, so that a half and what is below it are told apart. */
        private static final int QUOTIENT_BITS = 66;
        private static final long INFINITY = 0x7FF0000000000000L;
        private static final long SMALL_INFINITY = 0x7F800000L;

        private final long[] words = new long[WORDS];
        private int used;
        /** How many bits it stands too high. */
        private int raised;
        private boolean rest;

        static long infinity(boolean small) {
            return small ? SMALL_INFINITY : INFINITY;
        }

        void empty() {
            used = 0;
            raised = 0;
            rest = false;
        }

        /** Times factor (below 2 to the 31) and more. */
        void multiplyAdd(long factor, long more) {
            long carry = more;
            for (int i = 0; i < used; i++) {
                long sum = words[i] * factor + carry;
                words[i] = sum & WORD_MASK;
                carry = sum >>> WORD_BITS;
            }
            if (carry != 0 && used < WORDS) {
                words[used] = carry;
                used++;
            }
        }

        void multiplyByFives(int times) {
            for (int left = times; left > 0; left -= FIVES_AT_ONCE) {
                multiplyAdd(Decimal.power(5, Math.min(left, FIVES_AT_ONCE)), 0);
            }
        }

        void divideByFives(int times) {
            // a five has a little less than 2.322 bits
            int bitsOfDivisor = times * 2322 / 1000 + 1;
            int missing = bitsOfDivisor + QUOTIENT_BITS - length();
            if (missing > 0) {
                raise((missing + WORD_BITS - 1) / WORD_BITS);
            }
            for (int left = times; left > 0; left -= FIVES_AT_ONCE) {
                divide(Decimal.power(5, Math.min(left, FIVES_AT_ONCE)));
            }
        }

        private void raise(int byWords) {
            int by = Math.min(byWords, WORDS - used);
            for (int i = used - 1; i >= 0; i--) {
                words[i + by] = words[i];
            }
            for (int i = 0; i < by; i++) {
                words[i] = 0;
            }
            used += by;
            raised += by * WORD_BITS;
        }

        private void divide(long divisor) {
            long left = 0;
            for (int i = used - 1; i >= 0; i--) {
                long part = left << WORD_BITS | words[i];
                words[i] = part / divisor;
                left = part % divisor;
            }
            rest = rest || left != 0;
            while (used > 0 && words[used - 1] == 0) {
                used--;
            }
        }

        /** How many bits it has. */
        private int length() {
            if (used == 0) {
                return 0;
            }
            int bits = WORD_BITS * used;
            while (bits > 0 && !bit(bits - 1)) {
                bits--;
            }
            return bits;
        }

        private boolean bit(int i) {
            int word = i / WORD_BITS;
            return i >= 0 && word < used && (words[word] >>> i % WORD_BITS & 1) != 0;
        }

        private boolean anyBitBelow(int i) {
            int whole = Math.min(Math.max(i, 0) / WORD_BITS, used);
            for (int word = 0; word < whole; word++) {
                if (words[word] != 0) {
                    return true;
                }
            }
            return i > 0 && whole < used && (words[whole] & (1L << i % WORD_BITS) - 1) != 0;
        }

        /** The bits of the real nearest to it times 2 to the exponent. */
        long rounded(int exponent, boolean small) {
            int fractionBits = small ? RealWriter.SMALL_FRACTION_BITS : RealWriter.FRACTION_BITS;
            int lowest = small ? RealWriter.SMALL_LOWEST_EXPONENT : RealWriter.LOWEST_EXPONENT;
            int highest = small ? 127 : 1023;
            int length = length();
            int low = exponent - raised;
            int top = low + length - 1;
            if (length == 0 || top > highest) {
                return length == 0 ? 0 : infinity(small);
            }
            int unit = Math.max(top - fractionBits, lowest);
            int dropped = unit - low;
            long kept = bitsFrom(dropped, length);
            boolean more = rest || anyBitBelow(dropped - 1);
            if (bit(dropped - 1) && (more || kept % 2 != 0)) {
                kept++;
            }
            // a first bit that is there, and one that comes by rounding, count the exponent up by themselves
            return ((long) (unit - lowest) << fractionBits) + kept;
        }

        /** Its bits from that one on upwards, or moved up if that is below 0. */
        private long bitsFrom(int lowestBit, int length) {
            long kept = 0;
            for (int i = length - 1; i >= Math.max(lowestBit, 0); i--) {
                kept = kept << 1 | (bit(i) ? 1 : 0);
            }
            return lowestBit < 0 ? kept << -lowestBit : kept;
        }
    }
}
