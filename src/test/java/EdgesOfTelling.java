/** Edges of what is told, fed, kept and counted: the terms' first lines, promises 1 to 6 and 32 to 36. */
final class EdgesOfTelling {
    private static final int MIN = Integer.MIN_VALUE;
    private static final int MAX = Integer.MAX_VALUE;
    private static final int[] NO_PLACES = {-1, 12, 31, 32, 44, 64, MIN, MAX};
    private static final int[] NO_KNIGHTS = {-1, 9, 31, 32, 40, MIN, MAX};

    private EdgesOfTelling() {
    }

    static Runnable[] parts() {
        return new Runnable[] {
            EdgesOfTelling::termsOfPlaces, EdgesOfTelling::termsOfKnights, EdgesOfTelling::termsOfTheDay,
            EdgesOfTelling::termsOfConstants, EdgesOfTelling::promise1, EdgesOfTelling::promise2,
            EdgesOfTelling::promise3, EdgesOfTelling::promise4, EdgesOfTelling::promise5, EdgesOfTelling::promise6,
            EdgesOfTelling::promise32, EdgesOfTelling::promises33And34, EdgesOfTelling::promise35,
            EdgesOfTelling::promise36
        };
    }

    private static void termsOfPlaces() {
        Edge.of("Terms", "PLACES 0 to 11: told or not;");
        WolfKnight x = new WolfKnight();
        for (int p = 0; p < 12; p++) {
            Due.is("not told: count(" + (20 + p) + ")", -1, x.count(20 + p));
            Due.yes("place(" + p + ")", x.place(p));
            Due.is("told: count(2)", (2 << p) - 1, x.count(2));
            Due.is("told: count(" + (20 + p) + ")", 0, x.count(20 + p));
        }
        Due.is("no place 12: count(32)", -1, x.count(32));
        Edge.of("Terms", "two are NEXT to each other or not (not at first).");
        Due.is("not at first: rumour(0, 2)", 11, x.rumour(0, 2));
        x.next(0, 11, true);
        Due.is("each other: count(20)", 1 << 11, x.count(20));
        Due.is("each other: count(31)", 1, x.count(31));
        x.next(11, 0, false);
        Due.is("not: count(20)", 0, x.count(20));
        Due.is("not: count(31)", 0, x.count(31));
        WolfKnight y = Due.row(2);
        y.next(0, 1, true);
        y.next(0, 1, false);
        Due.is("told twice, not once: count(20)", 0, y.count(20));
    }

    private static void termsOfKnights() {
        Edge.of("Terms", "KNIGHTS a to i (0 to 8): told or not,");
        WolfKnight x = Due.row(12);
        for (int k = 0; k < 9; k++) {
            Due.is("not told: knightIs(" + k + ", 0)", -1, x.knightIs(k, 0));
            Due.yes("knight(" + k + ", 0, 0)", x.knight(k, 0, 0));
            Due.is("told: count(3)", (2 << k) - 1, x.count(3));
        }
        Due.is("a to i: diary", 2, Due.diary(x, "a>1;i>2"));
        Due.is("a is 0", 1, x.knightIs(0, 0));
        Due.is("i is 8", 2, x.knightIs(8, 0));
        Edge.of("Terms", "WOLF DAYS (bits of weekdays, 0 to 127),");
        for (int weekday = 0; weekday < 7; weekday++) {
            WolfKnight y = Due.row(1);
            y.first(weekday);
            y.knight(0, 0, 1 << weekday);
            y.knight(1, 0, 127 - (1 << weekday));
            y.knight(2, 0, 127);
            y.knight(3, 0, 0);
            y.days(1);
            Due.is("wolves on weekday " + weekday, 1 | 4, y.count(4));
        }
        Edge.of("Terms", "at a PLACE, a MAN, a WOLF or DEAD;");
        WolfKnight z = Due.row(2);
        z.knight(0, 1, 127);
        Due.is("place", 1, z.knightIs(0, 0));
        Due.is("a man", 0, z.knightIs(0, 2));
        z.days(1);
        Due.is("a wolf", 1, z.knightIs(0, 2));
        Due.hunts(z, 1, "h");
        z.days(1);
        Due.is("dead", 2, z.knightIs(0, 2));
        Due.is("no wolf any more: count(4)", 0, z.count(4));
        Due.is("dead: count(5)", 1, z.count(5));
        Due.is("told still: count(3)", 1, z.count(3));
        Edge.of("Terms", "CLOTHES: worn, or laid at a PLACE (a MAN wears his).");
        WolfKnight w = Due.row(12);
        w.knight(0, 11, 0);
        Due.is("worn", -2, w.knightIs(0, 3));
        Due.diary(w, "a+");
        Due.is("laid at 11", 11, w.knightIs(0, 3));
        Due.diary(w, "a@0");
        Due.is("laid at 0", 0, w.knightIs(0, 3));
        Due.diary(w, "a-");
        Due.is("worn", -2, w.knightIs(0, 3));
    }

    private static void termsOfTheDay() {
        Edge.of("Terms", "THE DAY (0 at first);");
        WolfKnight x = new WolfKnight();
        Due.is("count(0)", 0, x.count(0));
        x.days(1);
        Due.is("count(0)", 1, x.count(0));
        Edge.of("Terms", "its weekday is THE DAY and THE FIRST (a weekday, 0 to 6; 0 at first), modulo 7.");
        x = new WolfKnight();
        Due.is("0 at first: count(1)", 0, x.count(1));
        for (int day = 1; day <= 15; day++) {
            x.days(1);
            Due.is("round the week: count(1)", day % 7, x.count(1));
        }
        for (int first = 0; first < 7; first++) {
            x.first(first);
            Due.is("and the first: count(1)", (15 + first) % 7, x.count(1));
        }
        Edge.pass(x, 9999);
        Due.is("of the last day: count(1)", (9999 + 6) % 7, x.count(1));
    }

    private static void termsOfConstants() {
        Edge.of("Terms", "The constants: `NONE = -1`: There is none.");
        Due.is("NONE", -1, shownNone());
        Edge.of("What it is", "An object is used for at most 512 calls after it has been made;");
        WolfKnight x = Due.row(3);
        x.knight(0, 0, 127);
        Due.law(x, "e1(p=1|p=2)");
        for (int call = 9; call < 512; call++) {
            x.days(19);
        }
        Due.is("the 512th call", 503 * 19, x.count(0));
    }

    /** As the class shows it: the compiler would write the constant into the test. */
    private static int shownNone() {
        try {
            return WolfKnight.class.getField("NONE").getInt(null);
        } catch (ReflectiveOperationException none) {
            return 0;
        }
    }

    private static void promise1() {
        Edge.of("Promise 1", "No PLACES, KNIGHTS, LAW;");
        WolfKnight x = new WolfKnight();
        Due.is("places", 0, x.count(2));
        Due.is("knights", 0, x.count(3));
        Due.is("wolves", 0, x.count(4));
        Due.is("dead ones", 0, x.count(5));
        Due.is("rules", 0, x.count(6));
        Due.is("bytes", 0, x.count(7));
        for (int p = 0; p < 12; p++) {
            Due.is("hunts of " + p, 0, x.count(40 + p));
            Due.is("next to " + p, -1, x.count(20 + p));
        }
        for (int k = 0; k < 9; k++) {
            Due.is("knight " + k, -1, x.knightIs(k, 2));
        }
        Edge.of("Promise 1", "THE SEED 1.");
        Due.is("X", 1, x.count(8));
        x.place(0);
        x.knight(0, 0, 127);
        x.days(1);
        Due.is("the first draw", 25173 + 13849, x.count(8));
    }

    private static void promise2() {
        Edge.of("Promise 2", "A PLACE is told: true;");
        WolfKnight x = Due.row(2);
        Due.hunts(x, 0, "h");
        Due.yes("place(11)", x.place(11));
        Due.yes("place(0) once more", x.place(0));
        Due.is("told", 3 | 1 << 11, x.count(2));
        Due.is("still next", 2, x.count(20));
        Due.is("still hunted", 1, x.count(40));
        Edge.of("Promise 2", "false: no such one.");
        String before = Edge.stateOf(x);
        for (int p : NO_PLACES) {
            Due.no("place(" + p + ")", x.place(p));
        }
        Edge.same("place of none", before, x);
    }

    private static void promise3() {
        Edge.of("Promise 3", "Two told PLACES (not the same) are NEXT to each other or not: true;");
        WolfKnight x = Due.row(3);
        x.place(11);
        Due.yes("next(11, 0, true)", x.next(11, 0, true));
        Due.yes("next(0, 11, true) again", x.next(0, 11, true));
        Due.is("count(20)", 2 | 1 << 11, x.count(20));
        Due.yes("next(0, 11, false)", x.next(0, 11, false));
        Due.yes("next(0, 11, false) again", x.next(0, 11, false));
        Due.is("count(20)", 2, x.count(20));
        Due.is("count(31)", 0, x.count(31));
        Due.is("count(21)", 5, x.count(21));
        Due.no("the same", x.next(0, 0, true));
        Due.no("the same", x.next(11, 11, true));
        Due.no("the same", x.next(1, 1, false));
        Due.is("not next to itself: count(21)", 5, x.count(21));
        Edge.of("Promise 3", "false: no such ones.");
        String before = Edge.stateOf(x);
        for (int p : NO_PLACES) {
            Due.no("next(" + p + ", 0, true)", x.next(p, 0, true));
            Due.no("next(0, " + p + ", false)", x.next(0, p, false));
            Due.no("next(" + p + ", " + p + ", true)", x.next(p, p, true));
        }
        Due.no("not told", x.next(0, 3, true));
        Due.no("not told", x.next(3, 0, true));
        Due.no("not told", x.next(3, 4, true));
        Due.no("not told", x.next(1, 10, false));
        Edge.same("next of none", before, x);
        x.place(3);
        Due.is("told later, not next", 0, x.count(23));
    }

    private static void promise4() {
        Edge.of("Promise 4", "A KNIGHT at a told PLACE (in place of the one before: a MAN): true;");
        WolfKnight x = Due.row(3);
        x.place(11);
        Due.yes("knight(0, 0, 0)", x.knight(0, 0, 0));
        Due.yes("knight(8, 11, 127)", x.knight(8, 11, 127));
        Due.is("told", 257, x.count(3));
        x.days(1);
        Due.is("a wolf", 1, x.knightIs(8, 2));
        Due.yes("in place of a wolf", x.knight(8, 2, 5));
        Due.is("place", 2, x.knightIs(8, 0));
        Due.is("wolf days", 5, x.knightIs(8, 1));
        Due.is("a man", 0, x.knightIs(8, 2));
        Due.is("worn", -2, x.knightIs(8, 3));
        x.knight(8, 2, 127);
        Due.hunts(x, 2, "h");
        x.days(1);
        Due.is("dead", 2, x.knightIs(8, 2));
        Due.yes("in place of a dead one", x.knight(8, 0, 127));
        Due.is("a man", 0, x.knightIs(8, 2));
        Due.is("worn", -2, x.knightIs(8, 3));
        Due.is("none is dead", 0, x.count(5));
        Edge.of("Promise 4", "false: no such ones.");
        x.days(1);
        String before = Edge.stateOf(x);
        for (int k : NO_KNIGHTS) {
            Due.no("knight(" + k + ", 0, 0)", x.knight(k, 0, 0));
        }
        for (int p : NO_PLACES) {
            Due.no("knight(8, " + p + ", 0)", x.knight(8, p, 0));
        }
        Due.no("not told: knight(8, 3, 0)", x.knight(8, 3, 0));
        for (int days : new int[] {-1, 128, 255, MIN, MAX}) {
            Due.no("knight(8, 0, " + days + ")", x.knight(8, 0, days));
        }
        Edge.same("knight of none", before, x);
    }

    private static void promise5() {
        Edge.of("Promise 5", "THE FIRST: true;");
        WolfKnight x = Due.row(1);
        x.days(3);
        Due.yes("first(0)", x.first(0));
        Due.is("weekday", 3, x.count(1));
        Due.yes("first(6)", x.first(6));
        Due.is("weekday", 2, x.count(1));
        Edge.of("Promise 5", "false: no such weekday.");
        String before = Edge.stateOf(x);
        for (int weekday : new int[] {-1, 7, 8, 14, MIN, MAX}) {
            Due.no("first(" + weekday + ")", x.first(weekday));
        }
        Edge.same("first of none", before, x);
    }

    private static void promise6() {
        Edge.of("Promise 6", "Twenty bytes come behind the tape, the highest of each int first: how many it has;");
        WolfKnight x = Due.row(12);
        for (int k = 0; k < 9; k++) {
            x.knight(k, k, 0);
        }
        x.knight(4, 11, 0);
        x.feed(0x00010203, 0x0b050607, 0x08ffffff, MIN, MAX);
        Due.is("the highest first: check(9)", -1, x.check(9));
        Due.is("empty: count(7)", 0, x.count(7));
        Due.is("feed", 20, x.feed(0x00010203, 0x0b050607, 0x08ffffff, 0, 0));
        Due.is("feed behind it", 40, x.feed(-1, -1, -1, -1, -1));
        Due.is("the first ones stand ahead: check(9)", -1, x.check(9));
        x.feed(0x68686868, 0x68686868, 0x68686868, 0x68686868, 0x68686868);
        x.feed(0x2e2e2e2e, 0x2e2e2e2e, 0x2e2e2e2e, 0x2e2e2e2e, 0x2e2e2e68);
        Due.is("all twenty of both: hunts(0, 40)", 40, x.hunts(0, 40));
        int[] hunted = {0, 19, 39};
        for (int t : hunted) {
            Due.is("hunted(0, " + t + ")", 1, x.hunted(0, t));
        }
        Due.is("hunted(0, 20)", 0, x.hunted(0, 20));
        Due.is("hunted(0, 38)", 0, x.hunted(0, 38));
        Edge.of("Promise 6", "NONE if that would be more than 260.");
        for (int i = 1; i <= 13; i++) {
            Due.is("feed", 20 * i, x.feed(0x00010203, 0x0b050607, 0x08000000, 0, 0));
        }
        Due.is("feed of a 261st", -1, x.feed(-1, -1, -1, -1, -1));
        Due.is("feed of a 261st again", -1, x.feed(0, 0, 0, 0, 0));
        Due.is("it stays: count(7)", 260, x.count(7));
        Due.is("it stays: check(9)", -1, x.check(9));
        Due.is("once more: feed", 20, x.feed(0, 0, 0, 0, 0));
    }

    private static void promise32() {
        Edge.of("Promise 32", "THE SEED (0 to 65535; X, too): true;");
        WolfKnight x = Due.row(1);
        x.knight(0, 0, 127);
        for (int seed : new int[] {0, 1, 65535}) {
            Due.yes("seed(" + seed + ")", x.seed(seed));
            Due.is("X, too", seed, x.count(8));
            x.days(1);
            Due.is("the next X", Edge.nextX(seed), x.count(8));
        }
        Edge.of("Promise 32", "false: no such number.");
        String before = Edge.stateOf(x);
        for (int seed : new int[] {-1, 65536, 65537, MIN, MAX}) {
            Due.no("seed(" + seed + ")", x.seed(seed));
        }
        Edge.same("seed of none", before, x);
    }

    private static void promises33And34() {
        Edge.of("Promise 34", "false: none was KEPT.");
        WolfKnight x = Due.row(3);
        Due.no("undo()", x.undo());
        x.knight(0, 1, 127);
        x.days(2);
        x.seed(77);
        String before = Edge.stateOf(x);
        Due.no("undo()", x.undo());
        Edge.same("undo of none", before, x);
        Edge.of("Promise 33", "KEPT: THE DAY.");
        Due.is("keep()", 2, x.keep());
        Edge.same("keep", before, x);
        Edge.of("Promise 34", "UNDONE: true;");
        Due.yes("undo() at once", x.undo());
        Edge.same("undo at once", before, x);
        Edge.of("Terms", "KEPT: KNIGHTS, THE DAY, X; UNDONE: as they were KEPT last.");
        Due.hunts(x, 1, "h");
        x.knight(8, 2, 3);
        x.days(5);
        Due.is("dead", 1, x.count(5));
        Due.yes("undo()", x.undo());
        Due.is("the day", 2, x.count(0));
        Due.is("X", 77, x.count(8));
        Due.is("one told later is none", 1, x.count(3));
        Due.is("a wolf as before", 1, x.knightIs(0, 2));
        Due.is("his place", 1, x.knightIs(0, 0));
        Due.is("his clothes", 1, x.knightIs(0, 3));
        Due.is("his wolf days", 127, x.knightIs(0, 1));
        Due.is("no knights, but hunts, stay", 1, x.count(41));
        x.days(1);
        Due.yes("undo() again", x.undo());
        Due.is("as before: the day", 2, x.count(0));
        Due.is("as before: a wolf", 1, x.count(4));
        x.knight(4, 0, 0);
        Due.hunts(x, 1, ".");
        x.days(3);
        Due.is("kept last", 5, x.keep());
        int seed = x.count(8);
        x.knight(0, 2, 0);
        x.seed(5);
        x.days(9);
        Due.yes("undo()", x.undo());
        Due.is("the day", 5, x.count(0));
        Due.is("X", seed, x.count(8));
        Due.is("knights", 17, x.count(3));
        Due.is("his wolf days", 127, x.knightIs(0, 1));
        termsOfWhatIsNotKept();
    }

    private static void termsOfWhatIsNotKept() {
        WolfKnight x = Due.row(3);
        x.keep();
        x.place(11);
        x.next(0, 11, true);
        x.next(1, 2, false);
        x.first(3);
        Due.law(x, "e1(0=0)");
        Due.hunts(x, 2, "h.");
        x.knight(0, 0, 0);
        Due.feed(x, "abc");
        Due.yes("undo()", x.undo());
        Due.is("kept without knights: count(3)", 0, x.count(3));
        Due.is("places stay", 7 | 1 << 11, x.count(2));
        Due.is("next ones stay", 2 | 1 << 11, x.count(20));
        Due.is("next ones stay", 1, x.count(21));
        Due.is("the first stays", 3, x.count(1));
        Due.is("the law stays", 1, x.count(6));
        Due.is("hunts stay", 2, x.count(42));
        Due.is("the tape stays", 20, x.count(7));
    }

    private static void promise35() {
        Edge.of("Terms", "CHECK: PLACES of KNIGHTS: right, or the first that is not so.");
        WolfKnight x = Due.row(12);
        x.knight(0, 0, 0);
        x.knight(1, 11, 0);
        x.knight(8, 5, 0);
        byte[] right = {0, 11, -1, -1, -1, -1, -1, -1, 5};
        Due.feed(x, right);
        Due.is("all right", -1, x.check(9));
        for (int k = 0; k < 9; k++) {
            byte[] wrong = right.clone();
            wrong[k] = 10;
            wrong[8] = 9;
            Due.feed(x, wrong);
            Due.is("the first wrong one", k, x.check(9));
        }
        Due.hunts(x, 5, "h");
        x.knight(8, 5, 127);
        x.days(1);
        Due.feed(x, right);
        Due.is("a dead one's, too", -1, x.check(9));
        Edge.of("Promise 35", "CHECK by the first n bytes of the tape (0 to 9; empty then; of KNIGHTS that are not told 255):"
                + " NONE: right; else the first that is not so;");
        for (int k = 0; k < 9; k++) {
            byte[] wrong = right.clone();
            wrong[k] = (byte) (right[k] == -1 ? 254 : 255);
            Due.feed(x, wrong);
            Due.is("wrong at " + k, k, x.check(9));
            Due.is("empty", 0, x.count(7));
            Due.feed(x, wrong);
            Due.is("right ahead of it", -1, x.check(k));
            Due.is("empty", 0, x.count(7));
        }
        Due.is("of none, without a tape", -1, x.check(0));
        Edge.of("Promise 35", "-2: no such n, it has not so many (the tape stays).");
        Due.is("without a tape: check(1)", -2, x.check(1));
        Due.feed(x, right);
        for (int n : new int[] {-1, 10, 20, MIN, MAX}) {
            Due.is("check(" + n + ")", -2, x.check(n));
        }
        Due.is("the tape stays", 20, x.count(7));
        Due.is("as it was", -1, x.check(9));
    }

    private static void promise36() {
        WolfKnight x = Due.row(12);
        x.next(0, 11, true);
        x.knight(0, 0, 127);
        x.knight(3, 3, 127);
        x.knight(8, 2, 0);
        Due.hunts(x, 3, "h");
        Due.hunts(x, 11, "6(8.)");
        Due.law(x, "s(k=0);e0(k=1);h0(0=0)");
        x.first(6);
        x.days(1);
        Due.feed(x, "0123456789012345678901234567890");
        Edge.of("Promise 36", "0 THE DAY, 1 its weekday, 2 told PLACES (bits), 3 told KNIGHTS (bits), 4 WOLVES (bits),"
                + " 5 DEAD ones (bits), 6 RULES, 7 bytes of the tape, 8 X;");
        int[] due = {1, 0, 4095, 265, 1, 8, 3, 40, Edge.nextX(Edge.nextX(1))};
        for (int what = 0; what < due.length; what++) {
            Due.is("count(" + what + ")", due[what], x.count(what));
        }
        Edge.of("Promise 36", "20 + p PLACES NEXT to told PLACE p (bits),");
        Due.is("count(20)", 2 | 1 << 11, x.count(20));
        Due.is("count(31)", 1 | 1 << 10, x.count(31));
        Due.is("count(25)", 1 << 4 | 1 << 6, x.count(25));
        Due.is("not told: count(25)", -1, Due.row(5).count(25));
        Edge.of("Promise 36", "40 + p DAYS of HUNTS of PLACE p.");
        Due.is("count(43)", 1, x.count(43));
        Due.is("count(51)", 48, x.count(51));
        Due.is("none: count(40)", 0, x.count(40));
        WolfKnight y = new WolfKnight();
        Due.hunts(y, 11, "..");
        Due.is("told or not: count(51)", 2, y.count(51));
        Due.is("told or not: count(50)", 0, y.count(50));
        Edge.of("Promise 36", "NONE for others.");
        String before = Edge.stateOf(x);
        for (int what : new int[] {-1, 9, 19, 32, 39, 52, 60, 64 + 20, MIN, MAX, MIN + 20, MIN + 40}) {
            Due.is("count(" + what + ")", -1, x.count(what));
        }
        Edge.same("count of none", before, x);
    }
}
