import java.util.Random;

/** Random runs of calls: none may throw what the document does not name there, and what is told must hold together. */
public final class AnyCallsTest {
    private static final String LETTERS = "%%%%%dsfegaxocbnHtT-#+ 0,(123456789$<.XEGASCB";

    public static void main(String[] args) {
        Random random = new Random(41);
        for (int i = 0; i < 3000; i++) {
            aRun(random);
        }
        Bench.end();
    }

    private static void aRun(Random random) {
        FormatPress press = new FormatPress();
        for (int i = 0; i < 500; i++) {
            int which = random.nextInt(12);
            String told = Bench.told(() -> call(press, which, random));
            if (!allowed(which).contains(told) && !told.matches("-?\\d+")) {
                Bench.same("call " + which, told, "one of " + allowed(which));
            }
            boolean sound = press.kind() == 0;
            Bench.same("kind and place", press.place() >= 0, !sound);
            if (!sound && which == 7 && told.equals("UnsupportedOperationException")) {
                Bench.same("output of a fault", press.digest(), 7L);
                Bench.same("kind of run", press.kind() >= 8 && press.kind() <= 11, true);
            }
        }
    }

    private static String allowed(int which) {
        switch (which) {
            case 0: case 1: case 2: return "IllegalArgumentException";
            case 3: return "IllegalArgumentException UnsupportedOperationException";
            case 4: case 6: return "IllegalArgumentException IllegalStateException";
            case 5: return "IllegalStateException";
            case 7: return "NoSuchElementException UnsupportedOperationException";
            case 8: case 9: return "IllegalArgumentException";
            default: return "";
        }
    }

    private static long call(FormatPress press, int which, Random random) {
        switch (which) {
            case 0: case 1: case 2: return row(press, random);
            case 3: return press.format();
            case 4: return press.whole(random.nextInt(9) - 1, random.nextLong() >> random.nextInt(64));
            case 5: return press.real(random.nextLong() >> random.nextInt(64), random.nextBoolean());
            case 6: return press.text();
            case 7: return press.run();
            case 8: return press.output(random.nextInt(6100) - 50);
            case 9: return press.read(random.nextBoolean());
            case 10: return random.nextInt(8) == 0 ? press.clear() : press.digest();
            default: return press.kind() + press.place();
        }
    }

    private static long row(FormatPress press, Random random) {
        if (random.nextInt(20) == 0) {
            return press.row(random.nextLong(), random.nextInt(12) - 2, random.nextBoolean());
        }
        long w = 0;
        for (int i = 0; i < 8; i++) {
            w = w << 8 | LETTERS.charAt(random.nextInt(LETTERS.length()));
        }
        return press.row(w, random.nextInt(9), random.nextInt(6) == 0);
    }
}
