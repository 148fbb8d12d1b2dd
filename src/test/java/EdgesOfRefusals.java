/** The terms' last lines: whose memory it is, what refused calls leave as it was, and what is told first. */
final class EdgesOfRefusals {
    private static final int MIN = Integer.MIN_VALUE;
    private static final int MAX = Integer.MAX_VALUE;
    private static final int[] OUTSIDE = {MIN, MAX, -2, 10000, 1 << 30, 1 << 31 | 1};

    private EdgesOfRefusals() {
    }

    static Runnable[] parts() {
        return new Runnable[] {
            EdgesOfRefusals::ownMemory, EdgesOfRefusals::refusedCalls, EdgesOfRefusals::refusedTexts,
            EdgesOfRefusals::noneFirst, EdgesOfRefusals::thenFaults, EdgesOfRefusals::thenOthers
        };
    }

    private static WolfKnight busy() {
        WolfKnight x = Due.row(5);
        x.first(3);
        x.knight(0, 0, 127);
        x.knight(8, 4, 3);
        Due.law(x, "e1(p>n);h5(0=0);s(0=0)");
        Due.hunts(x, 2, "h.");
        x.seed(4711);
        x.days(3);
        x.keep();
        return x;
    }

    private static void ownMemory() {
        Edge.of("Terms", "All memory is the forest's own.");
        WolfKnight x = busy();
        Due.feed(x, "e2(0=0)");
        String before = Edge.stateOf(x);
        WolfKnight y = new WolfKnight();
        String fresh = Edge.stateOf(y);
        Due.is("another one's places", 0, y.count(2));
        Due.no("another one's keep", y.undo());
        y = Edge.star(12);
        y.knight(0, 3, 1);
        y.knight(8, 3, 1);
        Due.law(y, "e9(0=0)");
        Due.hunts(y, 2, "5h");
        y.days(9);
        y.keep();
        y.first(1);
        Due.feed(y, "h");
        y.suits(1, -1);
        Due.boots(y, 0, "???", 1);
        y.home(0, 100);
        Edge.same("another forest", before, x);
        Due.is("its own tape", 1, x.law(7));
        Edge.same("two forests", fresh, new WolfKnight());
        x.days(5);
        Due.yes("its own keep", x.undo());
        Due.is("its own keep", 3, x.count(0));
    }

    private static void refusedCalls() {
        Edge.of("Terms", "A call that is refused (NONE, false) changes nothing but the tape, where it is told.");
        WolfKnight x = busy();
        Due.feed(x, "e7(p=1);e8(0=0)");
        String before = Edge.stateOf(x);
        for (int n : OUTSIDE) {
            Due.no("place", x.place(n));
            Due.no("next", x.next(n, 0, true));
            Due.no("next", x.next(0, n, false));
            Due.no("knight", x.knight(n, 0, 0));
            Due.no("knight", x.knight(0, n, 0));
            Due.no("knight", x.knight(0, 0, n));
            Due.no("first", x.first(n));
            Due.no("seed", x.seed(n == 10000 ? 65536 : n));
            Due.is("law", -1, x.law(n));
            Due.is("hunts", -1, x.hunts(n, 1));
            Due.is("hunts", -1, x.hunts(0, n));
            Due.is("diary", -1, x.diary(n));
            Due.is("days", -1, x.days(n));
            Due.is("tried", -1, x.tried(n, 0));
            Due.is("boots", -1, x.boots(0, n, 0));
            Due.is("absences", -1, x.absences(n, 0));
            Due.is("hated", -1, x.hated(n, 0));
            Due.is("suits", -1, x.suits(n, 0));
            Due.is("check", -2, x.check(n));
        }
        Edge.same("a refused call", before, x);
        Due.is("the tape's bytes, too", 1, x.law(7));
        Due.is("the tape's bytes, too", 7, x.likes(0, 1));
        x.days(2);
        Due.yes("what was kept, too", x.undo());
        Due.is("what was kept, too", 3, x.count(0));
        refusedQuestions();
        fullTape();
    }

    private static void refusedQuestions() {
        WolfKnight x = busy();
        Due.feed(x, "?xyz");
        String before = Edge.stateOf(x);
        for (int n : OUTSIDE) {
            Due.is("tried", -1, x.tried(1, n));
            Due.is("knightIs", -1, x.knightIs(0, n));
            Due.is("hunted", -1, x.hunted(0, n));
            Due.is("likes", -1, x.likes(0, n));
            Due.is("manAgain", -1, x.manAgain(0, n));
            Due.is("deadFirst", -1, x.deadFirst(n, 0));
            Due.is("deadFirst", -1, x.deadFirst(1, n));
            Due.is("home", -1, x.home(0, n));
            Due.is("safest", -1, x.safest(n, 0));
            Due.is("calm", -1, x.calm(1, n));
            Due.is("rumour", -1, x.rumour(n, 0));
            Due.is("between", -1, x.between(0, n));
            Due.is("boots", -1, x.boots(0, 1, n));
            Due.is("absences", -1, x.absences(1, n));
            Due.is("hated", -1, x.hated(1, n));
            Due.is("count", -1, x.count(n));
        }
        Edge.same("a refused question", before, x);
        Due.is("the tape's bytes, too", 3, x.boots(0, 1, 0));
    }

    private static void fullTape() {
        WolfKnight x = busy();
        for (int i = 0; i < 13; i++) {
            x.feed(0x6830283d, 0x30290000, 0, 0, i);
        }
        String before = Edge.stateOf(x);
        Due.is("feed", -1, x.feed(MAX, MAX, MAX, MAX, MAX));
        Edge.same("a refused feed", before, x);
        Due.is("the tape's bytes, too", -1003, x.law(240));
    }

    private static void refusedTexts() {
        WolfKnight x = busy();
        String[] texts = {"x", "e1(0=0);e", "((("};
        for (String text : texts) {
            String before = Edge.stateOf(x);
            Due.yes("law", Due.law(x, text) < -1);
            Due.yes("hunts", Due.hunts(x, 2, text) < -1);
            Due.yes("diary", Due.diary(x, text) < -1);
            Due.yes("boots", Due.boots(x, 0, text, 0) < -1);
            Due.yes("absences", Due.absences(x, text, 0) < -1);
            Due.is("the tape is empty", 0, x.count(7));
            Edge.same("a fault", before, x);
            x = busy();
        }
    }

    private static void noneFirst() {
        Edge.of("Terms", "Where several of these fit one call NONE (or what is told in its place) is told first,");
        WolfKnight x = Due.row(2);
        x.knight(0, 0, 127);
        Due.feed(x, "x");
        Due.is("ahead of a fault: law", -1, x.law(241));
        Due.is("ahead of a fault: law", -1, x.law(21));
        Due.is("ahead of a fault: hunts", -1, x.hunts(12, 1));
        Due.is("ahead of a fault: hunts", -1, x.hunts(0, 21));
        Due.is("ahead of a fault: diary", -1, x.diary(21));
        Due.is("ahead of a fault: boots", -1, x.boots(2, 1, 0));
        Due.is("ahead of a fault: boots", -1, x.boots(0, 1, 2));
        Due.is("ahead of a fault: boots", -1, x.boots(0, 21, 0));
        Due.is("ahead of a fault: absences", -1, x.absences(1, 3));
        Due.is("ahead of a fault: absences", -1, x.absences(21, 0));
        Due.is("the tape stays", 20, x.count(7));
        x.check(0);
        Due.feed(x, Due.pairs(0x8000, 0x8000));
        Due.is("ahead of -2: hated", -1, x.hated(11, 1));
        Due.is("ahead of -2: hated", -1, x.hated(17, 2));
        Due.is("ahead of -2: suits", -1, x.suits(10, 9));
        Due.is("ahead of -2: suits", -1, x.suits(0, 9));
        Due.is("the tape stays", 20, x.count(7));
        x.check(0);
        Due.is("ahead of -2: suits", -1, x.suits(1, 9));
        Due.is("ahead of -2: safest", -1, new WolfKnight().safest(0, 0));
        Due.is("ahead of -2: safest", -1, new WolfKnight().safest(1, 2));
        Due.is("ahead of -2: calm", -1, x.calm(241, 1));
        Due.is("ahead of -2: calm", -1, x.calm(1, 2));
        Due.is("ahead of -2: deadFirst", -1, x.deadFirst(241, 0));
        Due.is("ahead of -2: deadFirst", -1, x.deadFirst(1, 2));
        Due.is("ahead of -2: feast", -1, x.feast(2026, 2, 5, 7));
        Due.is("ahead of -3: manAgain", -1, x.manAgain(0, 241));
        Due.is("ahead of -3: home", -1, x.home(0, 60));
        Due.is("in its place: check", -2, x.check(1));
        Due.is("in its place: daysBetween", -10000000, x.daysBetween(2026, 2, 29, 2026, 1, 1));
    }

    private static void thenFaults() {
        Edge.of("Terms", "then a FAULT, then -2, then -3 and so on (but where a call tells otherwise);");
        WolfKnight x = Due.row(1);
        Due.is("a fault, nobody meant", -1003, Due.absences(x, "ppp.", 0));
        Due.is("a fault, nowhere", -7001, Due.boots(x, 0, "Ab", 0));
        Due.is("a fault, nowhere", -1001, Due.boots(x, 0, "A.", 1));
        Due.is("nowhere", 0, Due.boots(x, 0, "A?", 1));
        Due.is("-2 alone: suits", -2, Due.suits(x, 9, 0));
        Due.is("-2 alone: safest", -2, new WolfKnight().safest(1, 1));
    }

    private static void thenOthers() {
        Edge.of("Terms", "in manAgain() -3 ahead of -2;");
        WolfKnight x = Due.row(3);
        x.knight(0, 0, 0);
        Due.is("a man, who stays one", -3, x.manAgain(0, 1));
        x.knight(0, 0, 127);
        Due.is("a man, who is a wolf then", -3, x.manAgain(0, 240));
        Due.hunts(x, 0, "h");
        x.days(1);
        Due.is("a dead one, in no days a man", -3, x.manAgain(0, 240));
        x.knight(0, 1, 127);
        x.days(1);
        Due.is("a wolf, in no days a man", -2, x.manAgain(0, 240));
        Edge.of("Terms", "in home() -3, -2, -4 in this order.");
        x = Due.row(3);
        x.next(0, 1, false);
        x.knight(0, 0, 127);
        Due.is("a man, not by 60, at 59", -3, x.home(0, 59));
        Due.is("a man, not by 60", -3, x.home(0, 100));
        Due.diary(x, "a+;a>2");
        Due.is("a wolf, not by 60, at 59", -2, x.home(0, 59));
        Due.is("a wolf, not by 60, at 0", -2, x.home(0, 0));
        Due.is("a wolf, not by 60", -2, x.home(0, 100));
        x.knight(0, 1, 0);
        Due.diary(x, "a+;a>2");
        Due.is("a wolf, by 1, at 59", -4, x.home(0, 59));
        Due.is("a wolf, by 1, at 1", -4, x.home(0, 1));
        Due.is("a wolf, by 1, at 0", 1, x.home(0, 0));
        Due.hunts(x, 2, "h");
        Due.hunts(x, 1, "h");
        x.days(1);
        Due.is("a dead one", -3, x.home(0, 59));
    }
}
