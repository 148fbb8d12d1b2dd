import java.nio.charset.StandardCharsets;
import java.util.Set;
import java.util.TreeSet;

/** What the tests share: comparing an answer with the one that is due, and feeding texts. */
public final class Due {
    private static final Set<String> BLAMED = new TreeSet<>();
    private static int asked = 0;
    private static int wrong = 0;
    private static String about = "";

    private Due() {
    }

    static int asked() {
        return asked;
    }

    /** What is asked from here on is about this. */
    static void about(String what) {
        about = what;
    }

    /** What wrong answers were about. */
    static Set<String> blamed() {
        return new TreeSet<>(BLAMED);
    }

    static void blame(String what) {
        wrong++;
        BLAMED.add(about);
        if (wrong <= 50) {
            System.out.println((about.isEmpty() ? "" : about + ": ") + what);
        }
    }

    public static void is(String call, long want, long got) {
        asked++;
        if (want != got) {
            blame(call + " answered " + got + ", due is " + want);
        }
    }

    public static void yes(String call, boolean got) {
        is(call, 1, got ? 1 : 0);
    }

    public static void no(String call, boolean got) {
        is(call, 0, got ? 1 : 0);
    }

    /** Ends the test: with exit code 1 if an answer was wrong. */
    static void close(String test) {
        System.out.println(test + ": " + asked + " answers, " + wrong + " wrong");
        if (wrong > 0 || asked == 0) {
            System.exit(1);
        }
    }

    static byte[] bytesOf(String text) {
        return text.getBytes(StandardCharsets.ISO_8859_1);
    }

    /** Feeds the bytes, twenty at a time, with blanks (zeros) behind them. */
    static void feed(WolfKnight x, byte[] bytes) {
        for (int from = 0; from < bytes.length || from == 0; from += 20) {
            int[] five = new int[5];
            for (int i = 0; i < 20; i++) {
                int b = from + i < bytes.length ? bytes[from + i] & 255 : 0;
                five[i / 4] |= b << 24 - 8 * (i % 4);
            }
            x.feed(five[0], five[1], five[2], five[3], five[4]);
        }
    }

    static void feed(WolfKnight x, String text) {
        feed(x, bytesOf(text));
    }

    static byte[] pairs(int... numbers) {
        byte[] bytes = new byte[2 * numbers.length];
        for (int i = 0; i < numbers.length; i++) {
            bytes[2 * i] = (byte) (numbers[i] >> 8);
            bytes[2 * i + 1] = (byte) numbers[i];
        }
        return bytes;
    }

    static int law(WolfKnight x, String text) {
        feed(x, text);
        return x.law(text.length());
    }

    static int hunts(WolfKnight x, int p, String text) {
        feed(x, text);
        return x.hunts(p, text.length());
    }

    static int diary(WolfKnight x, String text) {
        feed(x, text);
        return x.diary(text.length());
    }

    static int boots(WolfKnight x, int p, String text, int what) {
        feed(x, text);
        return x.boots(p, text.length(), what);
    }

    static int absences(WolfKnight x, String text, int what) {
        feed(x, text);
        return x.absences(text.length(), what);
    }

    static int hated(WolfKnight x, int what, int... evenings) {
        feed(x, pairs(evenings));
        return x.hated(evenings.length, what);
    }

    static int suits(WolfKnight x, int without, int... barons) {
        feed(x, pairs(barons));
        return x.suits(barons.length, without);
    }

    /** A forest with these places told, and each next to the one behind it in a row. */
    static WolfKnight row(int places) {
        WolfKnight x = new WolfKnight();
        for (int p = 0; p < places; p++) {
            x.place(p);
        }
        for (int p = 1; p < places; p++) {
            x.next(p - 1, p, true);
        }
        return x;
    }
}
