import java.time.LocalDateTime;
import java.time.ZoneOffset;
import java.time.format.TextStyle;
import java.util.Locale;
import java.util.Random;

/** Promise 8: days and times, against java.time. */
public final class TimesTest {
    private static final String SUFFIXES = "HIklMSLYyCmdejBbAapsQRTrDF";

    public static void main(String[] args) {
        written();
        edges();
        many();
        Bench.end();
    }

    private static void written() {
        long moment = 1234567890123L;
        Bench.writes("23:31:30", "%tT", moment);
        Bench.writes("11:31:30 PM", "%tr", moment);
        Bench.writes("02/13/09", "%tD", moment);
        Bench.writes("2009-02-13", "%tF", moment);
        Bench.writes("23:31", "%tR", moment);
        Bench.writes("Friday Fri February Feb pm", "%tA %<ta %<tB %<tb %<tp", moment);
        Bench.writes("FRIDAY FRI FEBRUARY FEB PM", "%TA %<Ta %<TB %<Tb %<Tp", moment);
        Bench.writes("  Friday|Friday  |", "%8tA|%<-8tA|", moment);
        Bench.writes("1970-01-01 00:00:00 12:00:00 AM 0 12 1 001", "%tF %<tT %<tr %<tk %<tl %<te %<tj", 0L);
        Bench.writes("-1 -1 999 1969-12-31", "%ts %<tQ %<tL %<tF", -1L);
        Bench.writes("0000-01-01", "%tF", -62167219200000L);
        Bench.writes("-0001-12-31 01 00", "%tF %<ty %<tC", -62167219200001L);
        Bench.writes("292278994-08-17 07:12:55 94 2922789", "%tF %<tT %<ty %<tC", Long.MAX_VALUE);
        Bench.writes("-292275055-05-16 16:47:04 55 2922750 192", "%tF %<tT %<ty %<tC %<tL", Long.MIN_VALUE);
        Bench.writes("fault 9 at 0", "%tH", 5);
    }

    private static void edges() {
        long day = 86400000L;
        for (int year = -2400; year <= 2800; year++) {
            long start = LocalDateTime.of(year, 1, 1, 0, 0).toEpochSecond(ZoneOffset.UTC) * 1000;
            for (long d : new long[] {0, 58, 59, 60, 364, 365}) {
                all(start + d * day + year * 7L);
            }
        }
        for (long hour = 0; hour < 24; hour++) {
            all(hour * 3600000L);
            all(hour * 3600000L - 1);
        }
    }

    private static void many() {
        Random random = new Random(11);
        for (int i = 0; i < 3000; i++) {
            all(random.nextLong() >> random.nextInt(64));
        }
        all(Long.MIN_VALUE);
        all(Long.MAX_VALUE);
    }

    private static void all(long moment) {
        StringBuilder format = new StringBuilder();
        StringBuilder due = new StringBuilder();
        for (char suffix : SUFFIXES.toCharArray()) {
            format.append("%1$t").append(suffix).append('|');
            due.append(of(moment, suffix)).append('|');
        }
        Bench.writes(due.toString(), format.toString(), moment);
    }

    private static String of(long moment, char suffix) {
        LocalDateTime t = LocalDateTime.ofEpochSecond(Math.floorDiv(moment, 1000L), (int) Math.floorMod(moment, 1000L) * 1000000, ZoneOffset.UTC);
        int twelve = t.getHour() % 12 == 0 ? 12 : t.getHour() % 12;
        int year = Math.abs(t.getYear());
        switch (suffix) {
            case 'H': return padded(t.getHour(), 2);
            case 'I': return padded(twelve, 2);
            case 'k': return "" + t.getHour();
            case 'l': return "" + twelve;
            case 'M': return padded(t.getMinute(), 2);
            case 'S': return padded(t.getSecond(), 2);
            case 'L': return padded(t.getNano() / 1000000, 3);
            case 'Y': return (t.getYear() < 0 ? "-" : "") + padded(year, 4);
            case 'y': return padded(year % 100, 2);
            case 'C': return padded(year / 100, 2);
            case 'm': return padded(t.getMonthValue(), 2);
            case 'd': return padded(t.getDayOfMonth(), 2);
            case 'e': return "" + t.getDayOfMonth();
            case 'j': return padded(t.getDayOfYear(), 3);
            case 'B': return t.getMonth().getDisplayName(TextStyle.FULL, Locale.ENGLISH);
            case 'b': return t.getMonth().getDisplayName(TextStyle.FULL, Locale.ENGLISH).substring(0, 3);
            case 'A': return t.getDayOfWeek().getDisplayName(TextStyle.FULL, Locale.ENGLISH);
            case 'a': return t.getDayOfWeek().getDisplayName(TextStyle.FULL, Locale.ENGLISH).substring(0, 3);
            case 'p': return t.getHour() < 12 ? "am" : "pm";
            case 's': return "" + Math.floorDiv(moment, 1000L);
            case 'Q': return "" + moment;
            case 'R': return of(moment, 'H') + ":" + of(moment, 'M');
            case 'T': return of(moment, 'R') + ":" + of(moment, 'S');
            case 'r': return of(moment, 'I') + ":" + of(moment, 'M') + ":" + of(moment, 'S') + (t.getHour() < 12 ? " AM" : " PM");
            case 'D': return of(moment, 'm') + "/" + of(moment, 'd') + "/" + of(moment, 'y');
            default: return of(moment, 'Y') + "-" + of(moment, 'm') + "-" + of(moment, 'd');
        }
    }

    private static String padded(int v, int digits) {
        String s = "" + v;
        return "0".repeat(Math.max(0, digits - s.length())) + s;
    }
}
