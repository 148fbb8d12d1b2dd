import java.util.ArrayList;
import java.util.List;

/** Drawn runs of calls, ordinary and wrong ones, on the class and on the model: all answers must be the same. */
public final class ModelTest {
    private static final int RUNS = 2500;
    private static final int CALLS = 512;
    private static long dice = 1;

    private ModelTest() {
    }

    private static int roll(int sides) {
        dice = dice * 6364136223846793005L + 1442695040888963407L;
        return (int) ((dice >>> 33) % sides);
    }

    private static boolean chance(int inHundred) {
        return roll(100) < inHundred;
    }

    private static char one(String signs) {
        return signs.charAt(roll(signs.length()));
    }

    /** Mostly within the bounds; else at them, just outside, or anywhere. */
    private static int number(int least, int most) {
        int die = roll(60);
        if (die == 0) {
            return least - 1;
        }
        if (die == 1) {
            return most + 1;
        }
        if (die == 2) {
            int[] far = {Integer.MIN_VALUE, Integer.MAX_VALUE, -2, 255, 1 << 20, -1};
            return far[roll(far.length)];
        }
        return die < 6 ? most : least + roll(most - least + 1);
    }

    // ---- texts ----

    private static String digits(int most) {
        StringBuilder text = new StringBuilder();
        int n = chance(2) ? most + 1 : 1 + roll(chance(70) ? 1 : most);
        for (int i = 0; i < n; i++) {
            text.append(one("0123456789"));
        }
        return text.toString();
    }

    private static String factor(int depth) {
        if (depth < 7 && chance(15)) {
            return "[" + sum(depth + 1) + "]";
        }
        return chance(55) ? String.valueOf(one("kpnjfowt")) : digits(5);
    }

    private static String sum(int depth) {
        StringBuilder text = new StringBuilder(factor(depth));
        while (chance(35)) {
            text.append(one("+-*/%")).append(factor(depth));
        }
        return text.toString();
    }

    private static String test(int depth) {
        if (depth < 8 && chance(12)) {
            return "!" + test(depth + 1);
        }
        if (depth < 8 && chance(12)) {
            return "(" + tests(depth + 1) + ")";
        }
        return sum(depth) + one("<>=") + sum(depth);
    }

    private static String tests(int depth) {
        StringBuilder text = new StringBuilder(test(depth));
        while (chance(25)) {
            text.append(one("&|")).append(test(depth));
        }
        return text.toString();
    }

    private static String lawText() {
        if (chance(2)) {
            return "s(k=0);".repeat(14 + roll(4)) + "s(k=0)";
        }
        StringBuilder text = new StringBuilder();
        int rules = 1 + roll(5);
        for (int i = 0; i < rules; i++) {
            char kind = one("eeehhs");
            String plain = chance(50) ? digits(2) : sum(0);
            text.append(i > 0 ? ";" : "").append(kind).append(kind == 's' ? "" : plain);
            text.append('(').append(chance(30) ? "0=0" : tests(1)).append(')');
        }
        return text.toString();
    }

    private static String huntsText(int depth) {
        StringBuilder text = new StringBuilder();
        do {
            if (chance(30)) {
                text.append(one(chance(5) ? "019" : "2345"));
            }
            text.append(depth < 3 && chance(25) ? "(" + huntsText(depth + 1) + ")" : String.valueOf(one("h...")));
        } while (chance(60));
        return text.toString();
    }

    private static String diaryText() {
        StringBuilder text = new StringBuilder();
        int lines = chance(5) ? 19 + roll(3) : 1 + roll(4);
        for (int i = 0; i < lines; i++) {
            char sign = one(lines > 10 ? ">" : ">>@@++--");
            text.append(i > 0 ? ";" : "").append((char) ('a' + roll(chance(90) ? 4 : 9))).append(sign);
            if (sign == '>' || sign == '@') {
                text.append(chance(90) ? String.valueOf(roll(8)) : digits(2));
            }
        }
        return text.toString();
    }

    private static String rowOf(String signs, int most) {
        StringBuilder text = new StringBuilder();
        int n = 1 + roll(most);
        for (int i = 0; i < n; i++) {
            text.append(one(signs));
        }
        return text.toString();
    }

    private static String spoiled(String text) {
        if (!chance(25)) {
            return text;
        }
        StringBuilder other = new StringBuilder(text);
        int at = roll(other.length());
        String signs = "eh.s()[]!&|<>=+-*/%0192kpnjfowtabiZ;@?x \u0000\u00ff";
        switch (roll(4)) {
            case 0:
                other.setCharAt(at, one(signs));
                break;
            case 1:
                other.deleteCharAt(at);
                break;
            case 2:
                other.insert(at, one(signs));
                break;
            default:
                other.setLength(at);
                break;
        }
        return other.toString();
    }

    // ---- calls ----

    private static WolfKnight x;
    private static Model m;
    private static List<String> told;

    private static void same(String call, long got, long want) {
        told.add(call + " = " + got);
        if (got != want) {
            System.out.println("the calls ahead:");
            for (String line : told.subList(Math.max(0, told.size() - 40), told.size())) {
                System.out.println("  " + line);
            }
        }
        Due.is(call, want, got);
    }

    private static void same(String call, boolean got, boolean want) {
        same(call, got ? 1 : 0, want ? 1 : 0);
    }

    private static void feed(byte[] bytes) {
        for (int from = 0; from < bytes.length; from += 20) {
            int[] w = new int[5];
            for (int i = 0; i < 20; i++) {
                int b = from + i < bytes.length ? bytes[from + i] & 255 : 0;
                w[i / 4] |= b << 24 - 8 * (i % 4);
            }
            same("feed of " + new String(bytes, java.nio.charset.StandardCharsets.ISO_8859_1),
                    x.feed(w[0], w[1], w[2], w[3], w[4]), m.feed(w[0], w[1], w[2], w[3], w[4]));
        }
    }

    private static int feed(String text) {
        if (m.count(7) > 0 && chance(97)) {
            same("check(0)", x.check(0), m.check(0));
        }
        feed(Due.bytesOf(text));
        if (chance(3)) {
            return roll(300) - 5;
        }
        return text.length();
    }

    private static void callText() {
        int n;
        int what;
        int p;
        switch (roll(9)) {
            case 0:
            case 1:
                n = feed(spoiled(lawText()));
                same("law(" + n + ")", x.law(n), m.law(n));
                break;
            case 2:
            case 3:
                n = feed(spoiled(huntsText(0)));
                p = number(0, 11);
                same("hunts(" + p + ", " + n + ")", x.hunts(p, n), m.hunts(p, n));
                break;
            case 4:
                n = feed(spoiled(diaryText()));
                same("diary(" + n + ")", x.diary(n), m.diary(n));
                break;
            case 5:
                n = feed(spoiled(rowOf(chance(50) ? "?????a" : "????????abcdefghijklABCDEFGHIJKL", 20)));
                what = number(0, 1);
                p = number(0, 9);
                same("boots(" + p + ", " + n + ", " + what + ")", x.boots(p, n, what), m.boots(p, n, what));
                break;
            case 6:
                n = feed(spoiled(rowOf(chance(50) ? "????????p" : "??????pa", chance(50) ? 6 : 60)));
                what = number(0, 2);
                same("absences(" + n + ", " + what + ")", x.absences(n, what), m.absences(n, what));
                break;
            default:
                callPairs();
                break;
        }
    }

    private static void callPairs() {
        same("check(0)", x.check(0), m.check(0));
        if (chance(50)) {
            int n = number(1, 16);
            int[] evenings = new int[Math.max(1, Math.min(17, n))];
            int two = 1 << roll(12) | 1 << roll(12);
            for (int i = 0; i < evenings.length; i++) {
                evenings[i] = roll(4096) & roll(4096);
                boolean bit = chance(4) || (evenings[i] & two) != 0;
                evenings[i] |= bit ? 0x8000 : 0;
                evenings[i] |= roll(8) << 12;
            }
            feed(Due.pairs(evenings));
            int what = number(0, 2);
            same("hated(" + n + ", " + what + ")", x.hated(n, what), m.hated(n, what));
        } else {
            int n = number(1, 9);
            int[] barons = new int[Math.max(1, Math.min(10, n))];
            for (int i = 0; i < barons.length; i++) {
                barons[i] = roll(65536) & (chance(30) ? 65535 : roll(65536));
            }
            feed(Due.pairs(barons));
            int without = number(-1, 8);
            same("suits(" + n + ", " + without + ")", x.suits(n, without), m.suits(n, without));
        }
    }

    private static void callTold() {
        int p = number(0, 7);
        int q = number(0, 7);
        int k = number(0, 3);
        boolean is = chance(70);
        switch (roll(9)) {
            case 0:
                p = number(0, chance(50) ? 7 : 11);
                same("place(" + p + ")", x.place(p), m.place(p));
                break;
            case 1:
            case 2:
            case 3:
                same("next(" + p + ", " + q + ", " + is + ")", x.next(p, q, is), m.next(p, q, is));
                break;
            case 4:
                k = number(0, 8);
                int days = chance(60) ? 7 << roll(5) : number(0, 127);
                same("knight(" + k + ", " + p + ", " + days + ")", x.knight(k, p, days), m.knight(k, p, days));
                break;
            case 5:
                int weekday = number(0, 6);
                same("first(" + weekday + ")", x.first(weekday), m.first(weekday));
                break;
            case 6:
                int seed = number(0, 65535);
                same("seed(" + seed + ")", x.seed(seed), m.seed(seed));
                break;
            case 7:
                same("keep()", x.keep(), m.keep());
                break;
            default:
                same("undo()", x.undo(), m.undo());
                break;
        }
    }

    private static void callDays() {
        int n = chance(85) ? 1 + roll(12) : number(1, 240);
        int k = chance(80) ? roll(4) : number(0, 8);
        int p = number(0, 7);
        int what = number(0, 4);
        switch (roll(9)) {
            case 0:
            case 1:
                same("days(" + n + ")", x.days(n), m.days(n));
                break;
            case 2:
                what = chance(50) ? number(0, 3) : chance(90) ? 10 + 10 * roll(2) + roll(5) : number(10, 28);
                same("tried(" + n + ", " + what + ")", x.tried(n, what), m.tried(n, what));
                break;
            case 3:
                same("knightIs(" + k + ", " + what + ")", x.knightIs(k, what), m.knightIs(k, what));
                break;
            case 4:
                n = number(0, 9999);
                same("hunted(" + p + ", " + n + ")", x.hunted(p, n), m.hunted(p, n));
                break;
            case 5:
                same("likes(" + k + ", " + p + ")", x.likes(k, p), m.likes(k, p));
                break;
            case 6:
                same("manAgain(" + k + ", " + n + ")", x.manAgain(k, n), m.manAgain(k, n));
                break;
            case 7:
                what = number(0, 1);
                same("deadFirst(" + n + ", " + what + ")", x.deadFirst(n, what), m.deadFirst(n, what));
                break;
            default:
                what = chance(40) ? 100 : chance(70) ? roll(6) : number(0, 60);
                same("home(" + k + ", " + what + ")", x.home(k, what), m.home(k, what));
                break;
        }
    }

    private static void callWays() {
        int n = number(1, 240);
        int p = number(0, 9);
        int q = number(0, 9);
        int what = number(0, 2);
        switch (roll(7)) {
            case 0:
                same("safest(" + n + ", " + what + ")", x.safest(n, what), m.safest(n, what));
                break;
            case 1:
                same("calm(" + n + ", " + what + ")", x.calm(n, what), m.calm(n, what));
                break;
            case 2:
                same("rumour(" + p + ", " + what + ")", x.rumour(p, what), m.rumour(p, what));
                break;
            case 3:
                same("middle()", x.middle(), m.middle());
                break;
            case 4:
                same("between(" + p + ", " + q + ")", x.between(p, q), m.between(p, q));
                break;
            case 5:
                what = chance(80) ? roll(53) : number(0, 60);
                same("count(" + what + ")", x.count(what), m.count(what));
                break;
            default:
                byte[] right = new byte[9];
                for (int k = 0; k < 9; k++) {
                    int at = m.knightIs(k, 0);
                    right[k] = (byte) (at < 0 ? 255 : at);
                }
                right[roll(9)] += chance(40) ? 1 : 0;
                same("check(0)", x.check(0), m.check(0));
                feed(right);
                n = number(0, 9);
                same("check(" + n + ")", x.check(n), m.check(n));
                break;
        }
    }

    private static void callTables() {
        int year = chance(30) ? 100 * number(1, 99) : number(1, 9999);
        int other = chance(50) ? year : number(1, 9999);
        int month = number(1, 12);
        int day = number(1, 31);
        int n = number(1, 5);
        int weekday = number(0, 6);
        switch (roll(5)) {
            case 0:
                same("weekday(" + year + ", " + month + ", " + day + ")", x.weekday(year, month, day),
                        m.weekday(year, month, day));
                break;
            case 1:
                same("daysBetween(" + year + ", " + month + ", " + day + ", " + other + ", " + weekday + ", " + n + ")",
                        x.daysBetween(year, month, day, other, weekday, n),
                        m.daysBetween(year, month, day, other, weekday, n));
                break;
            case 2:
                same("feast(" + year + ", " + month + ", " + n + ", " + weekday + ")",
                        x.feast(year, month, n, weekday), m.feast(year, month, n, weekday));
                break;
            case 3:
                same("easter(" + year + ")", x.easter(year), m.easter(year));
                break;
            default:
                n = number(0, 365);
                same("date(" + year + ", " + n + ")", x.date(year, n), m.date(year, n));
                break;
        }
    }

    private static void aRun(int run) {
        dice = run;
        roll(2);
        x = new WolfKnight();
        m = new Model();
        told = new ArrayList<>();
        int places = chance(10) ? 0 : chance(20) ? 12 : 3 + roll(6);
        for (int p = 0; p < places; p++) {
            same("place(" + p + ")", x.place(p), m.place(p));
        }
        int ways = roll(2 * places + 1);
        for (int i = 0; i < ways; i++) {
            int p = roll(places);
            int q = roll(places);
            same("next(" + p + ", " + q + ", true)", x.next(p, q, true), m.next(p, q, true));
        }
        for (int k = 0; k < 4 && places > 0; k++) {
            int p = roll(places);
            int days = 7 << roll(5);
            same("knight(" + k + ", " + p + ", " + days + ")", x.knight(k, p, days), m.knight(k, p, days));
        }
        for (int i = 0; i < 42 && run % 50 == 0; i++) {
            same("days(240)", x.days(240), m.days(240));
        }
        while (told.size() < CALLS - 20) {
            switch (roll(10)) {
                case 0:
                    callTold();
                    break;
                case 1:
                case 2:
                case 3:
                    callText();
                    break;
                case 4:
                case 5:
                case 6:
                    callDays();
                    break;
                case 7:
                case 8:
                    callWays();
                    break;
                default:
                    callTables();
                    break;
            }
        }
    }

    public static void main(String[] args) {
        for (int run = 1; run <= RUNS; run++) {
            aRun(run);
        }
        for (int year = 1; year <= 9999; year++) {
            x = new WolfKnight();
            m = new Model();
            told = new ArrayList<>();
            same("easter(" + year + ")", x.easter(year), m.easter(year));
        }
        Due.close("ModelTest");
    }
}
