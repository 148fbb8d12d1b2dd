/** Edges of a day, of days that go by and are tried, and of the way home: their terms, promises 10 to 17. */
final class EdgesOfDays {
    private static final int MIN = Integer.MIN_VALUE;
    private static final int MAX = Integer.MAX_VALUE;
    private static final int[] NO_DAYS = {0, -1, 241, MIN, MAX};
    private static final int[] NO_KNIGHTS = {-1, 9, 32, MIN, MAX};

    private EdgesOfDays() {
    }

    static Runnable[] parts() {
        return new Runnable[] {
            EdgesOfDays::termsOfADay, EdgesOfDays::termsOfTheFirstStep, EdgesOfDays::termsOfTheSecondStep,
            EdgesOfDays::termsOfTheThirdStep, EdgesOfDays::termsOfTheFourthStep, EdgesOfDays::termsOfTheFifthStep,
            EdgesOfDays::termsOfTheLastDay, EdgesOfDays::termsOfDraws, EdgesOfDays::promise10,
            EdgesOfDays::promise11, EdgesOfDays::promise12, EdgesOfDays::promise13, EdgesOfDays::promise14,
            EdgesOfDays::promise15, EdgesOfDays::promise16, EdgesOfDays::termsOfHome,
            EdgesOfDays::termsOfLongWaysHome, EdgesOfDays::promise17
        };
    }

    // ---- a day ----

    private static void termsOfADay() {
        Edge.of("Terms", "A DAY: each told living KNIGHT, by numbers, all as it is then:");
        WolfKnight x = Edge.star(3);
        Due.law(x, "e5-o(0=0)");
        x.knight(8, 0, 127);
        x.knight(0, 0, 127);
        x.days(1);
        Due.is("a first", 1, x.knightIs(0, 0));
        Due.is("i sees where he is then", 2, x.knightIs(8, 0));
        Due.is("a draw for each", Edge.nextX(Edge.nextX(1)), x.count(8));
        WolfKnight y = Edge.star(3);
        Due.law(y, "e5-o(0=0)");
        Due.hunts(y, 1, "h.");
        y.knight(0, 0, 127);
        y.knight(1, 0, 127);
        y.days(1);
        Due.is("dead at 1", 2, y.knightIs(0, 2));
        Due.is("b does not see the dead one", 1, y.knightIs(1, 0));
        Due.is("b is dead", 2, y.knightIs(1, 2));
        int seed = y.count(8);
        y.days(5);
        Due.is("none lives: no draws", seed, y.count(8));
        Due.is("none lives: place", 1, y.knightIs(0, 0));
        Due.is("none lives: the day", 6, y.count(0));
        WolfKnight z = Due.row(3);
        Due.law(z, "h9(k=0&o=0)");
        z.knight(1, 0, 127);
        z.knight(0, 0, 127);
        z.seed(Edge.seedFor(0));
        z.days(1);
        Due.is("b is there when the draw is for a", 0, z.knightIs(0, 3));
        WolfKnight w = Due.row(3);
        Due.law(w, "e1(p=n+1&k=1);h9(k=0&o=1);e1(p=2&o=0)");
        w.knight(1, 0, 127);
        w.knight(0, 0, 127);
        w.seed(Edge.seedFor(0));
        w.days(1);
        Due.is("b goes behind the draw for a", 1, w.knightIs(0, 3));
        Due.is("b goes", 1, w.knightIs(1, 0));
    }

    private static void termsOfTheFirstStep() {
        Edge.of("Terms", "(1) a MAN on one of his WOLF DAYS is a WOLF, his CLOTHES laid where he is.");
        for (int weekday = 0; weekday < 7; weekday++) {
            WolfKnight x = Due.row(1);
            x.first(weekday);
            x.knight(0, 0, 1 << weekday);
            x.knight(1, 0, 127 & ~(1 << weekday));
            x.days(1);
            Due.is("wolves on weekday " + weekday, 1, x.count(4));
            x.days(1);
            Due.is("wolves a day later", 2, x.count(4));
        }
        WolfKnight y = Due.row(12);
        Due.law(y, "e1(p=10)");
        y.knight(0, 11, 127);
        y.days(1);
        Due.is("clothes where he was", 11, y.knightIs(0, 3));
        Due.is("gone on the same day", 10, y.knightIs(0, 0));
        y.days(1);
        Due.is("a wolf's clothes stay on the next wolf day", 11, y.knightIs(0, 3));
    }

    private static void goes(String law, int want) {
        WolfKnight x = Edge.star(5);
        Due.law(x, law);
        x.knight(0, 0, 127);
        x.days(1);
        Due.is("he goes by " + law, want, x.knightIs(0, 0));
    }

    private static void termsOfTheSecondStep() {
        Edge.of("Terms", "(2) A WOLF goes to the told PLACE NEXT to his with the greatest e above 0"
                + " (of like ones the lowest; none: he stays).");
        goes("ep(0=0)", 4);
        goes("e5-p(0=0)", 1);
        goes("e1(p=3)", 3);
        goes("e1(0=0)", 1);
        goes("e7(p>2);e6(0=0)", 3);
        goes("e99999(p=4);e9999(p=2);e9998(0=0)", 2);
        goes("e0(0=0)", 0);
        goes("e0-p(0=0)", 0);
        goes("e9(p=0)", 0);
        goes("e9(p>4)", 0);
        goes("s(0=0);h9(0=0)", 0);
        WolfKnight x = Due.row(3);
        Due.law(x, "e1+p(0=0)");
        x.knight(0, 0, 127);
        x.knight(1, 1, 0);
        x.days(1);
        Due.is("2 is not next", 1, x.knightIs(0, 0));
        Due.is("a man stays", 1, x.knightIs(1, 0));
        x.next(1, 2, false);
        x.next(0, 1, false);
        x.days(1);
        Due.is("none is next any more", 1, x.knightIs(0, 0));
        WolfKnight y = Due.row(12);
        Due.law(y, "e1(p>n)");
        y.knight(0, 0, 127);
        for (int place = 1; place < 12; place++) {
            y.days(1);
            Due.is("one step a day", place, y.knightIs(0, 0));
        }
        y.days(1);
        Due.is("none is further", 11, y.knightIs(0, 0));
    }

    private static void termsOfTheThirdStep() {
        Edge.of("Terms", "(3) A WOLF at a PLACE that is hunted on THE DAY is DEAD, if s does not spare him.");
        WolfKnight x = Due.row(2);
        Due.law(x, "e1(p=1)");
        Due.hunts(x, 0, "h");
        Due.hunts(x, 1, ".h");
        x.knight(0, 0, 127);
        x.knight(1, 1, 0);
        Due.is("he leaves a hunted place", 0, x.days(1));
        Due.is("he is hunted where he stays", 1, x.days(1));
        Due.is("dead, not the man", 1, x.count(5));
        WolfKnight y = Due.row(2);
        Due.law(y, "e1(p=1)");
        Due.hunts(y, 1, "h");
        y.knight(0, 0, 1);
        Due.is("he comes to a hunted place", 1, y.days(1));
        WolfKnight z = Due.row(1);
        Due.hunts(z, 0, "h");
        Due.law(z, "s(w<2)");
        z.knight(0, 0, 127);
        Due.is("spared on two days", 0, z.days(2));
        Due.is("not on the third", 1, z.days(1));
    }

    private static void termsOfTheFourthStep() {
        Edge.of("Terms", "(4) A WOLF on a day that is none of his WOLF DAYS, where his CLOTHES lie, is a MAN, they are worn.");
        WolfKnight x = Due.row(2);
        x.knight(0, 1, 3);
        x.days(1);
        Due.is("a wolf", 1, x.knightIs(0, 2));
        x.days(1);
        Due.is("a wolf on his last wolf day", 1, x.knightIs(0, 2));
        x.days(1);
        Due.is("a man", 0, x.knightIs(0, 2));
        Due.is("worn", -2, x.knightIs(0, 3));
        Due.is("place", 1, x.knightIs(0, 0));
        Due.diary(x, "a+;a@0");
        x.days(1);
        Due.is("not where they lie", 1, x.knightIs(0, 2));
        Due.law(x, "e1(p=0)");
        x.days(1);
        Due.is("come to where they lie", 0, x.knightIs(0, 2));
        WolfKnight y = Due.row(1);
        Due.hunts(y, 0, ".h");
        y.knight(0, 0, 1);
        y.days(2);
        Due.is("dead ahead of it", 2, y.knightIs(0, 2));
        Due.is("still laid", 0, y.knightIs(0, 3));
        WolfKnight z = Due.row(1);
        z.knight(0, 0, 64);
        z.first(6);
        z.days(2);
        Due.is("round the week", 0, z.knightIs(0, 2));
    }

    private static WolfKnight drawing(int draw, String law) {
        WolfKnight x = Due.row(4);
        x.next(1, 3, true);
        Due.law(x, law);
        x.knight(0, 3, 1);
        x.seed(Edge.seedFor(draw));
        return x;
    }

    private static void termsOfTheFifthStep() {
        Edge.of("Terms", "(5) Of a WOLF (also of one that is DEAD since (3)): with a DRAW below h his CLOTHES are taken to"
                + " the lowest PLACE NEXT to where they lie (none: they stay).");
        WolfKnight x = drawing(4, "h5(0=0)");
        x.days(1);
        Due.is("4 is below 5: the lowest next to 3", 1, x.knightIs(0, 3));
        Due.is("he stays", 3, x.knightIs(0, 0));
        x = drawing(5, "h5(0=0)");
        x.days(1);
        Due.is("5 is not below 5", 3, x.knightIs(0, 3));
        x = drawing(0, "h0(0=0)");
        x.days(1);
        Due.is("0 is not below 0", 3, x.knightIs(0, 3));
        Due.is("a draw all the same", 0, x.count(8) % 10);
        x = drawing(4, "h5(0=0)");
        Due.hunts(x, 3, "h");
        Due.is("dead on the day", 1, x.days(1));
        Due.is("taken", 1, x.knightIs(0, 3));
        int seed = x.count(8);
        x.seed(Edge.seedFor(4));
        x.days(1);
        Due.is("dead earlier: not taken", 1, x.knightIs(0, 3));
        Due.is("dead earlier: no draw", Edge.seedFor(4), x.count(8));
        Due.is("one draw ahead", Edge.nextX(Edge.seedFor(4)), seed);
        x = drawing(4, "h5(0=0)");
        Due.diary(x, "a+");
        x.first(1);
        x.days(1);
        Due.is("a man since (4): worn", -2, x.knightIs(0, 3));
        Due.is("a man since (4): no draw", Edge.seedFor(4), x.count(8));
        x = drawing(4, "h5(0=0)");
        x.next(2, 3, false);
        x.next(1, 3, false);
        x.days(1);
        Due.is("none is next: they stay", 3, x.knightIs(0, 3));
        Due.is("none is next: a draw", Edge.nextX(Edge.seedFor(4)), x.count(8));
        Due.diary(x, "a@2;a>3");
        x.seed(Edge.seedFor(4));
        x.days(1);
        Due.is("next to the clothes, not to him", 1, x.knightIs(0, 3));
    }

    private static void termsOfTheLastDay() {
        Edge.of("Terms", "THE DAY is one more (9999 at most: then none goes by).");
        WolfKnight x = Due.row(2);
        x.days(1);
        Due.is("one more", 1, x.count(0));
        Edge.pass(x, 9997);
        Due.is("9998", 9998, x.count(0));
        x.knight(0, 0, 127);
        Due.is("the last that goes by", 0, x.days(1));
        Due.is("9999", 9999, x.count(0));
        Due.is("a wolf", 1, x.knightIs(0, 2));
        Due.is("one draw", Edge.nextX(1), x.count(8));
        Due.hunts(x, 0, "h");
        x.knight(1, 1, 127);
        String before = Edge.stateOf(x);
        Due.is("none goes by", 0, x.days(1));
        Due.is("none goes by", 0, x.days(240));
        Edge.same("days at 9999", before, x);
    }

    private static void termsOfDraws() {
        Edge.of("Terms", "DRAWS: X = (25173 X + 13849) modulo 65536 (X is THE SEED at first, 1): X modulo 10.");
        int[] seeds = {1, 0, 65535, 65534, 32767, 32768, 40000};
        for (int seed : seeds) {
            WolfKnight x = Due.row(2);
            x.knight(0, 0, 127);
            if (seed != 1) {
                x.seed(seed);
            }
            int due = (int) ((25173L * seed + 13849L) % 65536L);
            Due.law(x, "h" + due % 10 + "(0=0)");
            Due.is("not below it, from " + seed, 0, x.tried(1, 3));
            Due.law(x, "h" + (due % 10 + 1) + "(0=0)");
            Due.is("below it, from " + seed, 1, x.tried(1, 3));
            x.days(1);
            Due.is("X behind " + seed, due, x.count(8));
        }
        WolfKnight y = Due.row(1);
        y.days(3);
        Due.is("no draws without wolves", 1, y.count(8));
    }

    private static void promise10() {
        Edge.of("Promise 10", "DAYS (1 to 240; as many as can) go by: how many are DEAD since;");
        WolfKnight x = Due.row(3);
        Due.hunts(x, 0, "h");
        Due.hunts(x, 1, ".h");
        x.knight(0, 0, 127);
        x.knight(1, 1, 127);
        x.knight(2, 1, 127);
        x.knight(3, 2, 127);
        Due.is("days(1)", 1, x.days(1));
        Due.is("of these days alone", 2, x.days(1));
        Due.is("none since", 0, x.days(240));
        Due.is("the day", 242, x.count(0));
        Edge.pass(x, 9600);
        Due.is("the day", 9842, x.count(0));
        Due.hunts(x, 2, "h");
        Due.is("as many as can", 1, x.days(240));
        Due.is("the day", 9999, x.count(0));
        Edge.of("Promise 10", "NONE: no such n.");
        WolfKnight y = Due.row(1);
        y.knight(0, 0, 127);
        Due.hunts(y, 0, "h");
        String before = Edge.stateOf(y);
        for (int n : NO_DAYS) {
            Due.is("days(" + n + ")", -1, y.days(n));
        }
        Edge.same("days of none", before, y);
    }

    // ---- tried ----

    private static void promise11() {
        Edge.of("Terms", "TRIED are n DAYS by the DRAWS that will come (nothing is changed).");
        WolfKnight x = Due.row(3);
        Due.law(x, "e1(p=1);h5(0=0)");
        x.knight(0, 0, 127);
        x.keep();
        String before = Edge.stateOf(x);
        int[] draws = new int[6];
        int seed = 1;
        int below = 0;
        for (int i = 0; i < draws.length; i++) {
            seed = Edge.nextX(seed);
            below += seed % 10 < 5 ? 1 : 0;
            Due.is("taken in " + (i + 1), below, x.tried(i + 1, 3));
        }
        Due.is("tried(240, 10)", 1, x.tried(240, 10));
        Edge.same("tried", before, x);
        x.days(6);
        Due.is("the draws that came", seed, x.count(8));
        Edge.of("Promise 11", "DAYS (1 to 240; as many as can) that are tried,");
        WolfKnight z = Due.row(1);
        z.knight(0, 0, 1);
        Due.is("wolves in 1", 1, z.tried(1, 1));
        Due.is("wolves in 238", 34, z.tried(238, 1));
        Due.is("wolves in 240", 35, z.tried(240, 1));
        Due.is("men in 239", 34, z.tried(239, 2));
        Due.is("men in 240", 35, z.tried(240, 2));
        WolfKnight y = Due.row(1);
        Edge.pass(y, 9989);
        y.knight(0, 0, 127);
        Due.law(y, "s(0=0)");
        Due.hunts(y, 0, "9.9.9.9.9.3.");
        Due.is("ten can", 1, y.tried(240, 1));
        y.knight(0, 0, 0);
        Due.is("ten can, a man", 0, y.tried(240, 20));
        y.knight(0, 0, 85);
        Due.is("in ten", turnsBetween(9989, 9999), y.tried(240, 1));
        Edge.pass(y, 20);
        Due.is("none can", 0, y.tried(240, 1));
        promise11Whats();
    }

    /** How often a knight with wolf days 0, 2, 4, 6 turns a wolf who stays where his clothes are. */
    private static int turnsBetween(int from, int to) {
        int many = 0;
        boolean wolf = false;
        for (int day = from; day < to; day++) {
            boolean wolfDay = day % 7 % 2 == 0;
            many += wolfDay && !wolf ? 1 : 0;
            wolf = wolfDay;
        }
        return many;
    }

    private static void promise11Whats() {
        Edge.of("Promise 11", "what 0 DEAD in them, 1 how often one turned a WOLF, 2 a MAN, 3 how often CLOTHES were taken,");
        WolfKnight x = Due.row(3);
        x.knight(0, 0, 1);
        x.knight(8, 2, 2);
        Due.hunts(x, 2, "8.h");
        Due.is("dead in 8", 0, x.tried(8, 0));
        Due.is("dead in 9", 1, x.tried(9, 0));
        Due.is("wolves in 1", 1, x.tried(1, 1));
        Due.is("wolves in 2", 2, x.tried(2, 1));
        Due.is("wolves in 8", 3, x.tried(8, 1));
        Due.is("wolves in 9", 4, x.tried(9, 1));
        Due.is("men in 1", 0, x.tried(1, 2));
        Due.is("men in 2", 1, x.tried(2, 2));
        Due.is("men in 3", 2, x.tried(3, 2));
        Due.is("taken without an h", 0, x.tried(240, 3));
        Due.law(x, "h10(0=0)");
        Due.is("taken in 1", 1, x.tried(1, 3));
        Due.is("taken in 2: both", 3, x.tried(2, 3));
        WolfKnight y = Due.row(1);
        y.knight(0, 0, 127);
        Due.law(y, "h10(0=0)");
        Due.is("none is next: never taken", 0, y.tried(9, 3));
        Edge.of("Promise 11", "10 + k the PLACE of told KNIGHT k then, 20 + k what he is then (0 MAN, 1 WOLF, 2 DEAD);");
        WolfKnight z = Due.row(3);
        Due.law(z, "e1(p=1)");
        Due.hunts(z, 1, "3.h");
        z.knight(0, 0, 127);
        z.knight(8, 2, 4);
        Due.is("place", 1, z.tried(1, 10));
        Due.is("place", 2, z.tried(2, 18));
        Due.is("place", 1, z.tried(3, 18));
        Due.is("a wolf", 1, z.tried(3, 20));
        Due.is("dead", 2, z.tried(4, 20));
        Due.is("a man", 0, z.tried(2, 28));
        Due.is("a wolf", 1, z.tried(3, 28));
        Edge.of("Promise 11", "NONE: no such ones.");
        String before = Edge.stateOf(z);
        for (int n : NO_DAYS) {
            Due.is("tried(" + n + ", 0)", -1, z.tried(n, 0));
        }
        for (int what : new int[] {-1, 4, 9, 11, 17, 19, 21, 27, 29, 30, 42, 52, MIN, MAX, MIN + 10, MIN + 20}) {
            Due.is("tried(1, " + what + ")", -1, z.tried(1, what));
        }
        Edge.same("tried of none", before, z);
    }

    private static void promise12() {
        Edge.of("Promise 12", "Of a told KNIGHT, what 0 PLACE, 1 WOLF DAYS, 2 what he is (0 MAN, 1 WOLF, 2 DEAD),"
                + " 3 where his CLOTHES lie (-2: worn), 4 j where he is (99: no way, worn);");
        WolfKnight x = Due.row(12);
        x.knight(8, 11, 127);
        is(x, 11, 127, 0, -2, 99);
        Due.diary(x, "i+;i>0");
        is(x, 0, 127, 1, 11, 11);
        x.next(5, 6, false);
        is(x, 0, 127, 1, 11, 99);
        Due.diary(x, "i@0");
        is(x, 0, 127, 1, 0, 0);
        Due.hunts(x, 0, "h");
        x.days(1);
        is(x, 0, 127, 2, 0, 0);
        x.knight(8, 3, 0);
        is(x, 3, 0, 0, -2, 99);
        Edge.of("Promise 12", "NONE for others.");
        String before = Edge.stateOf(x);
        for (int what : new int[] {-1, 5, MIN, MAX}) {
            Due.is("knightIs(8, " + what + ")", -1, x.knightIs(8, what));
        }
        Due.is("not told", -1, x.knightIs(7, 0));
        for (int k : NO_KNIGHTS) {
            Due.is("knightIs(" + k + ", 0)", -1, x.knightIs(k, 0));
        }
        Edge.same("knightIs of none", before, x);
    }

    private static void is(WolfKnight x, int... five) {
        for (int what = 0; what < five.length; what++) {
            Due.is("knightIs(8, " + what + ")", five[what], x.knightIs(8, what));
        }
    }

    private static void promise13() {
        Edge.of("Promise 13", "Whether a PLACE (0 to 11) is hunted t DAYS from THE DAY on (0 to 9999; 1, 0);");
        WolfKnight x = Due.row(1);
        Due.hunts(x, 0, "h..");
        Due.hunts(x, 11, ".h");
        Due.is("hunted(0, 0)", 1, x.hunted(0, 0));
        Due.is("hunted(0, 1)", 0, x.hunted(0, 1));
        Due.is("hunted(0, 9999)", 1, x.hunted(0, 9999));
        Due.is("not told: hunted(11, 9999)", 1, x.hunted(11, 9999));
        Due.is("not told: hunted(11, 9998)", 0, x.hunted(11, 9998));
        Due.is("none: hunted(5, 0)", 0, x.hunted(5, 0));
        x.days(1);
        Due.is("from the day on: hunted(0, 0)", 0, x.hunted(0, 0));
        Due.is("from the day on: hunted(0, 2)", 1, x.hunted(0, 2));
        Edge.pass(x, 9999);
        Due.is("on day 19998: hunted(0, 9999)", 1, x.hunted(0, 9999));
        Due.is("on day 19997: hunted(0, 9998)", 0, x.hunted(0, 9998));
        Edge.of("Promise 13", "NONE: no such ones.");
        String before = Edge.stateOf(x);
        for (int p : new int[] {-1, 12, 32, MIN, MAX}) {
            Due.is("hunted(" + p + ", 0)", -1, x.hunted(p, 0));
        }
        for (int t : new int[] {-1, 10000, MIN, MAX}) {
            Due.is("hunted(0, " + t + ")", -1, x.hunted(0, t));
        }
        Edge.same("hunted of none", before, x);
    }

    private static void promise14() {
        Edge.of("Promise 14", "e of a told living KNIGHT for a told PLACE (now, as if he could go there; also a MAN);");
        WolfKnight x = Due.row(4);
        x.place(11);
        x.knight(0, 0, 127);
        x.knight(8, 3, 127);
        Due.is("without a law", 0, x.likes(0, 0));
        Due.law(x, "e1000*k+100*n+10*p+j(p<4);e7+o(0=0)");
        Due.is("where he is", 99, x.likes(0, 0));
        Due.is("next", 109, x.likes(0, 1));
        Due.is("not next", 129, x.likes(0, 3));
        Due.is("no way", 7, x.likes(0, 11));
        Due.is("i", 8399, x.likes(8, 0));
        Due.diary(x, "i+");
        Due.is("a wolf", 8303, x.likes(8, 0));
        Edge.of("Promise 14", "NONE: no such ones.");
        Due.hunts(x, 3, "h");
        Due.law(x, "e1(0=1)");
        x.days(1);
        Due.law(x, "e1(0=0)");
        String before = Edge.stateOf(x);
        Due.is("a living one", 1, x.likes(0, 0));
        Due.is("dead", -1, x.likes(8, 0));
        Due.is("not told", -1, x.likes(7, 0));
        Due.is("place not told", -1, x.likes(0, 4));
        for (int k : NO_KNIGHTS) {
            Due.is("likes(" + k + ", 0)", -1, x.likes(k, 0));
        }
        for (int p : new int[] {-1, 12, 32, MIN, MAX}) {
            Due.is("likes(0, " + p + ")", -1, x.likes(0, p));
        }
        Edge.same("likes of none", before, x);
    }

    private static void promise15() {
        Edge.of("Terms", "A MAN AGAIN: behind how many of n DAYS a WOLF is a MAN at the end of a DAY;");
        WolfKnight x = Due.row(2);
        x.knight(0, 0, 3);
        x.days(1);
        Due.is("on day 2, the second of them", 2, x.manAgain(0, 9));
        x.days(1);
        Due.is("on day 2, the first of them", 1, x.manAgain(0, 9));
        Edge.of("Promise 15", "A MAN AGAIN: a told WOLF, in n DAYS (1 to 240): behind how many;");
        Due.is("in 1", 1, x.manAgain(0, 1));
        Due.is("in 240", 1, x.manAgain(0, 240));
        WolfKnight y = Due.row(2);
        Due.law(y, "e1(t=39&p=0)");
        y.knight(8, 0, 0);
        Due.diary(y, "i+;i>1");
        Due.is("i", 40, y.manAgain(8, 240));
        Due.is("in just so many", 40, y.manAgain(8, 40));
        Edge.of("Promise 15", "-2: not in these;");
        Due.is("in one fewer", -2, y.manAgain(8, 39));
        WolfKnight z = Due.row(1);
        z.knight(0, 0, 127);
        z.days(1);
        Due.is("never", -2, z.manAgain(0, 240));
        Edge.pass(z, 9997);
        z.knight(0, 0, 0);
        Due.diary(z, "a+");
        Due.is("on the last day", 1, z.manAgain(0, 240));
        Due.hunts(z, 0, "h");
        Due.is("dead ahead of it", -2, z.manAgain(0, 240));
        Due.hunts(z, 0, ".");
        z.knight(0, 0, 127);
        z.days(1);
        z.knight(0, 0, 0);
        Due.diary(z, "a+");
        Due.is("none goes by", -2, z.manAgain(0, 240));
        Edge.of("Promise 15", "-3: he is no WOLF;");
        x.knight(1, 1, 127);
        Due.is("a man", -3, x.manAgain(1, 1));
        Due.hunts(x, 1, "h");
        x.days(1);
        Due.is("dead", -3, x.manAgain(1, 240));
        Edge.of("Promise 15", "NONE: no such ones.");
        String before = Edge.stateOf(x);
        for (int n : NO_DAYS) {
            Due.is("manAgain(0, " + n + ")", -1, x.manAgain(0, n));
            Due.is("dead: manAgain(1, " + n + ")", -1, x.manAgain(1, n));
        }
        for (int k : NO_KNIGHTS) {
            Due.is("manAgain(" + k + ", 1)", -1, x.manAgain(k, 1));
        }
        Due.is("not told", -1, x.manAgain(2, 1));
        Edge.same("manAgain of none", before, x);
    }

    private static void promise16() {
        Edge.of("Terms", "who is DEAD first, when.");
        WolfKnight x = Due.row(3);
        x.knight(8, 0, 127);
        x.knight(5, 1, 127);
        x.knight(1, 2, 127);
        x.knight(0, 2, 0);
        Due.hunts(x, 0, "9.9.9.2.h.");
        Due.hunts(x, 1, "9.9.9.2.h");
        Due.hunts(x, 2, "9.9.9.3.h");
        Due.is("who", 5, x.deadFirst(240, 0));
        Due.is("when", 30, x.deadFirst(240, 1));
        Edge.of("Promise 16", "Who is DEAD first in n DAYS (1 to 240), what 0 who (of one DAY the lowest), 1 behind how many;");
        Due.is("in just so many", 5, x.deadFirst(30, 0));
        Due.is("in just so many", 30, x.deadFirst(30, 1));
        x.knight(2, 1, 127);
        Due.is("of one day the lowest", 2, x.deadFirst(30, 0));
        Due.hunts(x, 2, "h");
        Due.is("on the first day", 1, x.deadFirst(1, 0));
        Due.is("on the first day", 1, x.deadFirst(1, 1));
        x.days(1);
        Due.is("not one who is dead", 2, x.deadFirst(240, 0));
        Due.is("not one who is dead", 29, x.deadFirst(240, 1));
        Edge.of("Promise 16", "-2: nobody;");
        Due.is("in one fewer", -2, x.deadFirst(28, 0));
        Due.is("in one fewer", -2, x.deadFirst(28, 1));
        Due.is("without knights", -2, new WolfKnight().deadFirst(240, 0));
        WolfKnight y = Due.row(1);
        Edge.pass(y, 9999);
        y.knight(0, 0, 127);
        Due.diary(y, "a+");
        Due.hunts(y, 0, "h");
        Due.is("none goes by", -2, y.deadFirst(240, 1));
        Edge.of("Promise 16", "NONE: no such ones.");
        String before = Edge.stateOf(x);
        for (int n : NO_DAYS) {
            Due.is("deadFirst(" + n + ", 0)", -1, x.deadFirst(n, 0));
        }
        for (int what : new int[] {-1, 2, MIN, MAX}) {
            Due.is("deadFirst(240, " + what + ")", -1, x.deadFirst(240, what));
        }
        Edge.same("deadFirst of none", before, x);
    }

    // ---- home ----

    private static void homeIs(String told, WolfKnight x, int... row) {
        Due.is(told + ": days", row.length, x.home(0, 100));
        for (int i = 0; i < row.length; i++) {
            Due.is(told + ": at " + i, row[i], x.home(0, i));
        }
        Due.is(told + ": behind it", -4, x.home(0, row.length));
    }

    /** a, a wolf at the second place whose clothes lie at the first, on no wolf days. */
    private static WolfKnight homeless(WolfKnight x, int clothes, int place) {
        x.knight(0, clothes, 0);
        Due.is("diary", 2, Due.diary(x, "a+;a>" + place));
        return x;
    }

    private static void termsOfHome() {
        Edge.of("Terms", "HOME: the fewest DAYS (1 to 60) by which a WOLF, going each DAY to a PLACE NEXT to his or staying,");
        WolfKnight x = homeless(Due.row(3), 0, 0);
        homeIs("one day at least", x, 0);
        x = homeless(Due.row(3), 0, 2);
        homeIs("a step a day", x, 1, 0);
        x.next(0, 2, true);
        homeIs("the fewest", x, 0);
        x.next(0, 2, false);
        Due.hunts(x, 1, "h.");
        homeIs("or staying", x, 2, 1, 0);
        Edge.of("Terms", "never at the end of a DAY at a PLACE hunted on it,");
        x = homeless(Due.row(3), 0, 2);
        Due.hunts(x, 2, "h");
        homeIs("hunted where he starts", x, 1, 0);
        Due.hunts(x, 1, "h");
        Due.is("hunted always", -2, x.home(0, 100));
        Due.hunts(x, 1, ".h");
        homeIs("hunted a day later", x, 1, 0);
        Due.hunts(x, 2, ".");
        Due.hunts(x, 0, "3h.");
        Due.hunts(x, 1, "2h.");
        homeIs("hunted where the clothes lie", x, 2, 2, 1, 0);
        Due.hunts(x, 1, ".");
        homeIs("hunted where the clothes lie alone", x, 1, 1, 1, 0);
        Due.hunts(x, 0, "h");
        Due.is("hunted where the clothes lie always", -2, x.home(0, 100));
        Due.hunts(x, 0, "3h.");
        Due.hunts(x, 1, "2h.");
        x.days(1);
        homeIs("from the day on", x, 2, 1, 0);
        Edge.of("Terms", "can be where his CLOTHES lie now on a day that is none of his WOLF DAYS;");
        x = Due.row(2);
        x.knight(0, 0, 7);
        Due.diary(x, "a+;a>1");
        homeIs("on weekday 3", x, 0, 0, 0, 0);
        x.first(3);
        homeIs("on weekday 3 at once", x, 0);
        x.first(2);
        homeIs("the day behind", x, 0, 0);
        x.first(5);
        homeIs("none of these", x, 0);
        Due.diary(x, "a@1");
        homeIs("where they lie now", x, 1);
        Due.law(x, "h10(0=0)");
        homeIs("nobody takes them", x, 1);
        x.knight(0, 0, 127);
        Due.diary(x, "a+");
        Due.is("none but wolf days", -2, x.home(0, 100));
        Edge.of("Terms", "of like ones the least row of PLACES (one for each DAY).");
        x = new WolfKnight();
        for (int p = 0; p < 6; p++) {
            x.place(p);
        }
        int[][] ways = {{5, 1}, {5, 2}, {1, 4}, {2, 3}, {3, 0}, {4, 0}};
        for (int[] way : ways) {
            x.next(way[0], way[1], true);
        }
        homeless(x, 0, 5);
        homeIs("the least first", x, 1, 4, 0);
        Due.hunts(x, 4, ".h");
        homeIs("then the next", x, 2, 3, 0);
        Due.hunts(x, 3, ".h");
        homeIs("the least of all", x, 1, 1, 4, 0);
        Due.hunts(x, 1, ".h");
        homeIs("a detour is no shorter", x, 2, 2, 3, 0);
    }

    private static void termsOfLongWaysHome() {
        WolfKnight x = Due.row(2);
        x.knight(0, 1, 127 - 8);
        Due.diary(x, "a+;a>0");
        Due.hunts(x, 1, "9h.");
        Due.is("60 days", 60, x.home(0, 100));
        for (int i = 0; i < 60; i++) {
            Due.is("at " + i, i == 59 ? 1 : 0, x.home(0, i));
        }
        Edge.of("Promise 17", "-2: not by 60;");
        x.knight(0, 1, 127 - 16);
        Due.diary(x, "a+;a>0");
        Due.hunts(x, 1, ".9h");
        Due.is("later than 60", -2, x.home(0, 100));
        x = homeless(Due.row(3), 0, 2);
        x.next(0, 1, false);
        Due.is("no way", -2, x.home(0, 100));
        Due.is("no way", -2, x.home(0, 0));
        x.next(0, 1, true);
        Due.hunts(x, 2, "h");
        Due.hunts(x, 1, "h");
        Due.is("nowhere to go", -2, x.home(0, 59));
        Due.hunts(x, 1, "h.");
        Due.hunts(x, 2, ".");
        Edge.pass(x, 9999);
        x.knight(0, 0, 0);
        Due.diary(x, "a+;a>2");
        homeIs("on day 9999", x, 1, 0);
    }

    private static void promise17() {
        Edge.of("Promise 17", "HOME of a told WOLF, what 100 how many DAYS, else the PLACE at place what (0 to 59);");
        WolfKnight x = Due.row(12);
        x.knight(8, 11, 0);
        Due.diary(x, "i+;i>0");
        Due.is("days", 11, x.home(8, 100));
        for (int i = 0; i < 11; i++) {
            Due.is("at " + i, i + 1, x.home(8, i));
        }
        String before = Edge.stateOf(x);
        x.home(8, 10);
        Edge.same("home", before, x);
        Edge.of("Promise 17", "-3: he is no WOLF;");
        x.knight(1, 3, 127);
        x.knight(2, 4, 0);
        Due.is("a man", -3, x.home(1, 100));
        Due.hunts(x, 3, "h");
        x.days(1);
        Due.is("dead", -3, x.home(1, 0));
        Edge.of("Promise 17", "-4: no such place;");
        Due.hunts(x, 3, ".");
        Due.is("behind the last", -4, x.home(8, 11));
        Due.is("behind the last", -4, x.home(8, 59));
        Edge.of("Promise 17", "NONE: no such ones.");
        before = Edge.stateOf(x);
        for (int what : new int[] {-1, 60, 99, 101, MIN, MAX}) {
            Due.is("home(8, " + what + ")", -1, x.home(8, what));
            Due.is("a man: home(2, " + what + ")", -1, x.home(2, what));
        }
        Due.is("not told", -1, x.home(3, 100));
        for (int k : NO_KNIGHTS) {
            Due.is("home(" + k + ", 100)", -1, x.home(k, 100));
        }
        Edge.same("home of none", before, x);
    }
}
