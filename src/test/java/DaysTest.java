/** Promises 10 to 17: days that go by, days that are tried, and the soonest way home. */
public final class DaysTest {
    private static final int MIN = Integer.MIN_VALUE;

    private DaysTest() {
    }

    /** Place 0 in the middle, next to all the others. */
    private static WolfKnight star(int places) {
        WolfKnight x = new WolfKnight();
        for (int p = 0; p < places; p++) {
            x.place(p);
            x.next(0, p, true);
        }
        return x;
    }

    private static WolfKnight starWith(String law) {
        WolfKnight x = star(5);
        Due.law(x, law);
        x.knight(0, 0, 127);
        return x;
    }

    private static void goes(String law, int want) {
        WolfKnight x = starWith(law);
        x.days(1);
        Due.is("the wolf goes by " + law, want, x.knightIs(0, 0));
    }

    private static void promise10WhereHeGoes() {
        goes("e1(0=0)", 1);
        goes("ep(0=0)", 4);
        goes("e5-p(0=0)", 1);
        goes("e5(p=3|p=2)", 2);
        goes("e0(0=0)", 0);
        goes("e0-p(0=0)", 0);
        goes("e9(p=0)", 0);
        goes("e9(p=7)", 0);
        goes("e99999(p=3);e9999(p=2);e9998(p=1)", 2);
        goes("e1(p>2);e2(p>3)", 3);
        goes("h9(0=0);s(0=0)", 0);
        WolfKnight x = star(3);
        x.knight(0, 0, 127);
        x.days(1);
        Due.is("he stays without a law", 0, x.knightIs(0, 0));
        Due.law(x, "e1(0=0)");
        x.next(0, 1, false);
        x.days(1);
        Due.is("next ones alone", 2, x.knightIs(0, 0));
        x.days(1);
        Due.is("and back", 0, x.knightIs(0, 0));
    }

    private static void promise10Steps() {
        WolfKnight x = Due.row(3);
        Due.law(x, "e1(w=0&p=1|w=1&p=0|w=2&p=1|w=3&p=0)");
        x.knight(0, 0, 3);
        Due.is("days", 0, x.days(1));
        Due.is("a wolf goes on the day itself", 1, x.knightIs(0, 0));
        Due.is("his clothes stay", 0, x.knightIs(0, 3));
        x.days(1);
        Due.is("back", 0, x.knightIs(0, 0));
        Due.is("but on a wolf day", 1, x.knightIs(0, 2));
        x.days(1);
        Due.is("no wolf day, but his clothes lie elsewhere", 1, x.knightIs(0, 2));
        x.days(1);
        Due.is("where his clothes lie, on no wolf day", 0, x.knightIs(0, 2));
        Due.is("worn", -2, x.knightIs(0, 3));
        Due.is("place", 0, x.knightIs(0, 0));
        x.days(3);
        Due.is("a man till the week is round", 0, x.knightIs(0, 2));
        x.days(1);
        Due.is("a wolf again", 1, x.knightIs(0, 2));
        x.days(3);
        Due.is("a man again on the fourth day", 0, x.knightIs(0, 2));
        WolfKnight y = Due.row(1);
        y.knight(0, 0, 1);
        y.first(6);
        y.days(1);
        Due.is("weekday 6 is none", 0, y.knightIs(0, 2));
        y.days(1);
        Due.is("weekday 0 is one", 1, y.knightIs(0, 2));
        y.days(1);
        Due.is("a man, staying", 0, y.knightIs(0, 2));
    }

    private static void promise10Hunts() {
        WolfKnight x = Due.row(3);
        Due.law(x, "e1(p=1)");
        x.knight(0, 0, 127);
        x.knight(1, 1, 0);
        x.knight(2, 2, 127);
        Due.hunts(x, 0, "h");
        Due.hunts(x, 1, ".h");
        Due.is("he leaves a hunted place", 0, x.days(1));
        Due.is("three at 1", 3, x.knightIs(0, 0) + x.knightIs(1, 0) + x.knightIs(2, 0));
        Due.is("two are dead since", 2, x.days(2));
        Due.is("not the man", 5, x.count(5));
        Due.is("dead ones stay where they are", 1, x.knightIs(2, 0));
        Due.is("their clothes, too", 2, x.knightIs(2, 3));
        Due.is("none since", 0, x.days(5));
        WolfKnight y = Due.row(1);
        y.knight(0, 0, 1);
        Due.hunts(y, 0, ".h");
        y.days(1);
        Due.is("dead ahead of being a man", 1, y.days(1));
        Due.is("dead", 2, y.knightIs(0, 2));
        Due.is("his clothes stay laid", 0, y.knightIs(0, 3));
        WolfKnight z = Due.row(1);
        z.knight(0, 0, 1);
        Due.hunts(z, 0, "h");
        Due.is("dead on the day he is a wolf", 1, z.days(1));
    }

    private static void spared(String law, boolean want) {
        WolfKnight x = Due.row(2);
        Due.hunts(x, 1, "h");
        x.knight(3, 0, 1);
        Due.diary(x, "d+;d>1;d@1");
        x.days(6);
        x.knight(3, 0, 1);
        Due.diary(x, "d+;d>1;d@1");
        Due.law(x, law);
        Due.is("dead by " + law, want ? 0 : 1, x.days(1));
        Due.is("else a man by " + law, want ? 0 : 2, x.knightIs(3, 2));
    }

    private static void promise10Spared() {
        spared("s(0=0)", true);
        spared("s(0=1)", false);
        spared("s(0=1);s(k=3);s(0=1)", true);
        spared("s(p=1&n=1&j=0&f=1&o=0&w=6&t=6)", true);
        spared("s(f=0)", false);
        spared("s(1/0=1|0=0)", false);
        spared("e0(0=0);h1(0=0)", false);
    }

    private static void promise10ByNumbers() {
        WolfKnight x = star(3);
        Due.law(x, "e5-o(0=0)");
        x.knight(1, 0, 127);
        x.knight(0, 0, 127);
        x.days(1);
        Due.is("the lower first", 1, x.knightIs(0, 0));
        Due.is("the other one sees him", 2, x.knightIs(1, 0));
        WolfKnight y = star(3);
        Due.law(y, "e5-o(0=0)");
        Due.hunts(y, 1, "h");
        y.knight(1, 0, 127);
        y.knight(0, 0, 127);
        Due.is("dead ones are not seen", 2, y.days(1));
        WolfKnight z = star(3);
        Due.law(z, "e5-o(0=0)");
        z.knight(0, 0, 127);
        z.knight(1, 1, 0);
        z.days(1);
        Due.is("men are seen", 2, z.knightIs(0, 0));
    }

    private static void promise10Draws() {
        // The draws from 1 on: 2 7 6 5 2 9.
        WolfKnight x = star(4);
        Due.law(x, "h7(0=0)");
        x.knight(0, 3, 1);
        Due.is("tried", 1, x.tried(1, 3));
        x.days(1);
        Due.is("2 is below 7: taken to the lowest next one", 0, x.knightIs(0, 3));
        Due.is("X", 39022, x.count(8));
        x.days(1);
        Due.is("7 is not", 0, x.knightIs(0, 3));
        x.days(1);
        Due.is("6 is", 1, x.knightIs(0, 3));
        Due.is("X", 20196, x.count(8));
        Due.law(x, "h0(0=0)");
        x.days(1);
        Due.is("5 is not below 0", 1, x.knightIs(0, 3));
        Due.is("a draw all the same", 45005, x.count(8));
        Due.law(x, "e1(0=0)");
        x.days(1);
        Due.is("none without an h", 1, x.knightIs(0, 3));
        Due.is("a draw all the same", 3882, x.count(8));
        WolfKnight y = Due.row(1);
        Due.law(y, "h99(0=0)");
        y.knight(0, 0, 1);
        y.days(1);
        Due.is("no next place: they stay", 0, y.knightIs(0, 3));
        Due.is("a draw all the same", 39022, y.count(8));
        y.days(6);
        Due.is("a man", 0, y.knightIs(0, 2));
        Due.is("no draw of a man", 39022, y.count(8));
    }

    private static void promise10MoreDraws() {
        WolfKnight x = Due.row(3);
        Due.law(x, "h10(k=4&p=2&n=2&j=0&f=1&o=1&w=3&t=0)");
        Due.hunts(x, 2, "h.");
        x.first(3);
        x.knight(4, 2, 127);
        x.knight(5, 2, 0);
        Due.is("dead", 1, x.days(1));
        Due.is("clothes of one dead on the day are taken", 1, x.knightIs(4, 3));
        Due.is("one draw", 39022, x.count(8));
        x.days(3);
        Due.is("no more draws of a dead one", 39022, x.count(8));
        Due.is("no more", 1, x.knightIs(4, 3));
        WolfKnight y = Due.row(3);
        Due.law(y, "h3(0=0)");
        y.knight(0, 0, 127);
        y.knight(1, 2, 127);
        y.knight(2, 2, 127);
        y.days(1);
        Due.is("2 for a", 1, y.knightIs(0, 3));
        Due.is("7 for b", 2, y.knightIs(1, 3));
        Due.is("6 for c", 2, y.knightIs(2, 3));
        Due.is("X", 20196, y.count(8));
        y.days(1);
        Due.is("5 for a", 1, y.knightIs(0, 3));
        Due.is("2 for b", 1, y.knightIs(1, 3));
        WolfKnight z = Due.row(2);
        Due.law(z, "h0-5(0=0)");
        z.seed(3);
        z.knight(0, 0, 127);
        z.days(1);
        Due.is("89368 modulo 65536 is 23832", 23832, z.count(8));
        Due.is("below 0 the bound", 0, z.knightIs(0, 3));
        WolfKnight w = Due.row(2);
        Due.law(w, "h10/0(0=0);h10(0=0)");
        w.knight(0, 0, 127);
        w.days(1);
        Due.is("refused is 0", 0, w.knightIs(0, 3));
    }

    private static void promise10WhatTheLawSees() {
        WolfKnight x = Due.row(4);
        x.first(6);
        x.knight(8, 2, 64);
        x.knight(0, 2, 0);
        x.knight(1, 2, 0);
        x.knight(2, 3, 0);
        Due.hunts(x, 2, "h");
        Due.law(x, "e1(p=3&n=2&k=8&j=1&o=1&f=0&w=6);h10(p=2&n=3&k=8&j=0&o=2&f=1&w=6)");
        x.days(1);
        Due.is("he goes", 3, x.knightIs(8, 0));
        Due.is("he lives", 1, x.knightIs(8, 2));
        Due.is("his clothes are taken", 1, x.knightIs(8, 3));
        Due.law(x, "s(p=3&n=3&k=8&j=2&o=1&f=1&w=0&t=1)");
        Due.hunts(x, 3, "h");
        Due.is("he is spared", 0, x.days(1));
        Due.diary(x, "i@3");
        Due.law(x, "s(0=0)");
        x.days(1);
        Due.is("a man", 0, x.knightIs(8, 2));
        Due.is("worn", -2, x.knightIs(8, 3));
        Due.diary(x, "i>0;i+;i>1");
        Due.is("he goes", 1, x.knightIs(8, 0));
        Due.is("clothes", 0, x.knightIs(8, 3));
        Due.hunts(x, 1, "h");
        Due.law(x, "e0(0=0)");
        Due.is("he is dead", 1, x.days(1));
        Due.is("he is dead", 256, x.count(5));
    }

    private static void promise10PlaceEleven() {
        WolfKnight x = Due.row(12);
        Due.law(x, "ep(n>9);h10(p=11)");
        x.knight(0, 10, 127);
        x.days(1);
        Due.is("to 11", 11, x.knightIs(0, 0));
        x.days(1);
        Due.is("and back", 10, x.knightIs(0, 0));
        Due.diary(x, "a@11");
        x.days(1);
        Due.is("taken from 11 to 10", 10, x.knightIs(0, 3));
    }

    private static void promise10Days() {
        WolfKnight x = Due.row(2);
        x.knight(0, 0, 127);
        Due.is("too small", -1, x.days(0));
        Due.is("too small", -1, x.days(-1));
        Due.is("too large", -1, x.days(241));
        Due.is("none went by", 0, x.count(0));
        for (int i = 1; i <= 41; i++) {
            Due.is("days", 0, x.days(240));
        }
        Due.is("the day", 9840, x.count(0));
        Due.is("days", 0, x.days(158));
        Due.hunts(x, 0, "h");
        x.knight(1, 1, 127);
        Due.is("one more can", 1, x.tried(240, 0));
        Due.is("one more turn", 1, x.tried(240, 1));
        Due.is("first", 1, x.deadFirst(240, 1));
        Due.is("b a wolf", 1, x.tried(240, 21));
        Due.diary(x, "b+");
        Due.is("not in these", -2, x.manAgain(1, 240));
        x.knight(1, 1, 0);
        Due.diary(x, "b+");
        Due.is("on the last day", 1, x.manAgain(1, 240));
        Due.is("one more", 1, x.days(240));
        Due.is("the last day", 9999, x.count(0));
        Due.is("weekday", 9999 % 7, x.count(1));
        int seed = x.count(8);
        Due.hunts(x, 1, "h");
        x.knight(1, 1, 127);
        Due.diary(x, "b+");
        Due.is("none goes by", 0, x.days(240));
        Due.is("the last day", 9999, x.count(0));
        Due.is("no draws", seed, x.count(8));
        Due.is("none is tried", 0, x.tried(1, 0));
        Due.is("none is dead", -2, x.deadFirst(9, 0));
        x.knight(1, 1, 0);
        Due.diary(x, "b+");
        Due.is("none a man", -2, x.manAgain(1, 9));
        Due.is("hunts go on behind it", 1, x.hunted(0, 9999));
        Due.is("keep", 9999, x.keep());
    }

    private static void promise11Tried() {
        WolfKnight x = Due.row(3);
        Due.law(x, "e1(p=1&w=0);h3(0=0)");
        x.knight(0, 0, 1);
        x.knight(8, 2, 0);
        x.knight(3, 2, 64);
        Due.hunts(x, 1, "6.h");
        Due.is("n too small", -1, x.tried(0, 0));
        Due.is("n too large", -1, x.tried(241, 0));
        for (int what : new int[] {-1, 4, 9, 11, 12, 19, 21, 29, 30, 100, MIN, Integer.MAX_VALUE}) {
            Due.is("tried(1, " + what + ")", -1, x.tried(1, what));
        }
        Due.is("place", 1, x.tried(1, 10));
        Due.is("a wolf", 1, x.tried(1, 20));
        Due.is("taken to 1", 1, x.tried(1, 3));
        Due.is("still at 1", 1, x.tried(2, 10));
        Due.is("a wolf once", 1, x.tried(1, 1));
        Due.is("a man at 1 behind two", 1, x.tried(2, 2));
        Due.is("a man at 1 behind two", 0, x.tried(2, 20));
        Due.is("not behind one", 0, x.tried(1, 2));
        Due.is("place of the man", 2, x.tried(240, 18));
        Due.is("a man", 0, x.tried(240, 28));
        Due.is("place", 2, x.tried(6, 13));
        Due.is("turned on weekday 6", 1, x.tried(7, 23));
        Due.is("nothing is changed", 0, x.count(0) + x.count(4) + x.count(5) + x.knightIs(0, 0));
        Due.is("nothing is changed", 1, x.count(8));
        WolfKnight y = Due.row(2);
        Due.law(y, "s(t<20)");
        Due.hunts(y, 0, "h");
        y.knight(0, 0, 1);
        y.knight(1, 1, 5);
        Due.is("dead in 20", 0, y.tried(20, 0));
        Due.is("wolves in 21", 3 + 6, y.tried(21, 1));
        Due.is("men in 21", 3 + 6, y.tried(21, 2));
        Due.is("men in 16", 3 + 5, y.tried(16, 2));
        Due.is("dead in 22", 1, y.tried(22, 0));
        Due.is("dead one", 2, y.tried(22, 20));
        Due.is("taken never", 0, y.tried(240, 3));
        Due.law(y, "h10(0=0);s(0=0)");
        Due.is("taken on one day", 2, y.tried(1, 3));
        y.knight(0, 0, 127);
        y.knight(1, 1, 0);
        Due.is("taken on all days", 240, y.tried(240, 3));
        Due.law(y, "h3(0=0)");
        y.knight(0, 1, 127);
        Due.is("draws 2 7 6 5 2 9 below 3", 2, y.tried(6, 3));
        y.days(1);
        Due.is("draws that will come", 1, y.tried(4, 3));
    }

    private static void promise12KnightIs() {
        WolfKnight x = Due.row(4);
        x.place(7);
        x.knight(0, 3, 65);
        Due.is("place", 3, x.knightIs(0, 0));
        Due.is("wolf days", 65, x.knightIs(0, 1));
        Due.is("a man", 0, x.knightIs(0, 2));
        Due.is("worn", -2, x.knightIs(0, 3));
        Due.is("worn: 99", 99, x.knightIs(0, 4));
        Due.diary(x, "a+;a>0");
        Due.is("place", 0, x.knightIs(0, 0));
        Due.is("a wolf", 1, x.knightIs(0, 2));
        Due.is("clothes", 3, x.knightIs(0, 3));
        Due.is("three steps", 3, x.knightIs(0, 4));
        x.next(0, 3, true);
        Due.is("one step", 1, x.knightIs(0, 4));
        Due.diary(x, "a@7");
        Due.is("no way", 99, x.knightIs(0, 4));
        Due.diary(x, "a>7");
        Due.is("no step", 0, x.knightIs(0, 4));
        Due.hunts(x, 7, "h");
        x.days(1);
        Due.is("dead", 2, x.knightIs(0, 2));
        Due.is("dead: clothes", 7, x.knightIs(0, 3));
        Due.is("dead: place", 7, x.knightIs(0, 0));
        Due.is("dead: j", 0, x.knightIs(0, 4));
        Due.is("no such what", -1, x.knightIs(0, -1));
        Due.is("no such what", -1, x.knightIs(0, 5));
        Due.is("not told", -1, x.knightIs(1, 0));
        Due.is("no such knight", -1, x.knightIs(-1, 0));
        Due.is("no such knight", -1, x.knightIs(9, 0));
        Due.is("no such knight", -1, x.knightIs(32, 0));
    }

    private static void promise13Hunted() {
        WolfKnight x = Due.row(1);
        Due.hunts(x, 0, "h..");
        Due.hunts(x, 11, "9.9.9.9.9.2.h");
        Due.is("today", 1, x.hunted(0, 0));
        Due.is("tomorrow", 0, x.hunted(0, 1));
        Due.is("in three days", 1, x.hunted(0, 3));
        Due.is("in 9999 days", 1, x.hunted(0, 9999));
        Due.is("the 48th", 1, x.hunted(11, 47));
        Due.is("the 47th", 0, x.hunted(11, 46));
        Due.is("round again", 1, x.hunted(11, 95));
        Due.is("never", 0, x.hunted(5, 47));
        x.days(2);
        Due.is("from the day on", 0, x.hunted(0, 0));
        Due.is("from the day on", 1, x.hunted(0, 1));
        Due.is("from the day on", 1, x.hunted(11, 45));
        Due.hunts(x, 0, "..h");
        Due.is("from the first on at the day 0", 1, x.hunted(0, 0));
        Due.is("no such place", -1, x.hunted(-1, 0));
        Due.is("no such place", -1, x.hunted(12, 0));
        Due.is("no such day", -1, x.hunted(0, -1));
        Due.is("no such day", -1, x.hunted(0, 10000));
    }

    /** e of wolf c at 1 for place 3, 3 steps from his clothes at 0, hunted, with two others, on day 105, weekday 2. */
    private static WolfKnight aWolf() {
        WolfKnight x = Due.row(5);
        x.first(2);
        x.days(105);
        x.knight(2, 0, 0);
        x.knight(5, 3, 0);
        x.knight(8, 3, 127);
        Due.diary(x, "c+;c>1");
        Due.hunts(x, 3, "h");
        return x;
    }

    private static void likes(String law, int want) {
        WolfKnight x = aWolf();
        Due.is("rules of " + law, law.split(";").length, Due.law(x, law));
        Due.is("likes by " + law, want, x.likes(2, 3));
    }

    private static void promise14Reckoning() {
        likes("ek(0=0)", 2);
        likes("ep(0=0)", 3);
        likes("en(0=0)", 1);
        likes("ej(0=0)", 3);
        likes("ef(0=0)", 1);
        likes("eo(0=0)", 2);
        likes("ew(0=0)", 2);
        likes("et(0=0)", 5);
        likes("e9999(0=0)", 9999);
        likes("e10000(0=0)", 9999);
        likes("e99999(0=0)", 9999);
        likes("e1-2(0=0)", 0);
        likes("e7-2-1(0=0)", 4);
        likes("e100/10/5(0=0)", 2);
        likes("e100/10*5(0=0)", 50);
        likes("e2+3*4(0=0)", 14);
        likes("e2*3+4(0=0)", 10);
        likes("e20-6/4+1(0=0)", 20);
        likes("e20-8%5*2-1(0=0)", 13);
        likes("e10%4*3(0=0)", 6);
        likes("e[2+3]*[9-5](0=0)", 20);
        likes("e20-[6-[2-1]](0=0)", 15);
        likes("e[0-7]%3+5(0=0)", 4);
        likes("e[0-7]/2+9(0=0)", 6);
        likes("e7%[0-3](0=0)", 1);
        likes("e99999*99999%10000(0=0)", 5409);
        likes("e65536*32767+65535+1-1(0=0)", 9999);
        likes("e65536*32767+65536(0=0)", 0);
        likes("e65536*32768/[0-1]%10000+9000(0=0)", 5352);
        likes("e65536*32768%[0-1]+7(0=0)", 7);
        likes("e00012(0=0)", 12);
    }

    private static void promise14Conditions() {
        likes("e1(p=3);e2(0=0)", 1);
        likes("e1(p=2);e2(0=0)", 2);
        likes("h5(0=0);s(0=0);e2(p>2)", 2);
        likes("e1(p<3)", 0);
        likes("e1(p<4);e2(0=0)", 1);
        likes("e1(p>3);e2(0=0)", 2);
        likes("e1(!p=3);e2(0=0)", 2);
        likes("e1(!!p=3);e2(0=0)", 1);
        likes("e1(0=0|0=1&0=1);e2(0=0)", 1);
        likes("e1((0=0|0=1)&0=1);e2(0=0)", 2);
        likes("e1(0=1&0=1|0=0);e2(0=0)", 1);
        likes("e1(0=1&(0=1|0=0));e2(0=0)", 2);
        likes("e1(!0=1&0=1);e2(0=0)", 2);
        likes("e1(!(0=1&0=1));e2(0=0)", 1);
        likes("e1(!0=1|0=0);e2(0=0)", 1);
        likes("e1(!(0=1|0=0));e2(0=0)", 2);
        likes("e1(0=0&0=0&0=1|0=1|0=0&0=0);e2(0=0)", 1);
        likes("e1(0=1|0=1|0=1);e2(0=0)", 2);
        likes("e1(!p<4);e2(0=0)", 2);
        likes("e1(!p>2);e2(0=0)", 2);
        likes("e1(!p<3&!p>3);e2(0=0)", 1);
        likes("e1(k+p=n*5&[j-f]*2=o+w);e2(0=0)", 1);
        likes("e1(0-1<0);e2(0=0)", 1);
    }

    private static void promise14Refused() {
        likes("e1/0(0=0);e7(0=0)", 0);
        likes("e5+1%0(0=0);e7(0=0)", 0);
        likes("e0*[1/[k-2]]+4(0=0);e7(0=0)", 0);
        likes("e1(1/0=0);e7(0=0)", 7);
        likes("e1(0=1%0);e7(0=0)", 7);
        likes("e1(0=0|1/0=0);e7(0=0)", 1);
        likes("e1(1/0=0|0=0);e7(0=0)", 7);
        likes("e1(0=1|1/0=0|0=0);e7(0=0)", 7);
        likes("e1(0=1&1/0=0|0=0);e7(0=0)", 1);
        likes("e1(0=0&1/0=0|0=0);e7(0=0)", 7);
        likes("e1(!1/0=0);e7(0=0)", 7);
        likes("e1(!(0=0&1/0=1)|0=0);e7(0=0)", 7);
        likes("e1(!(0=1&1/0=1));e7(0=0)", 1);
        likes("e1(0/5=0);e7(0=0)", 1);
    }

    private static void promise14Likes() {
        WolfKnight x = aWolf();
        Due.law(x, "ej+10*n+100*p+1000*o(0=0)");
        Due.is("for his own place", 111, x.likes(2, 1));
        Due.law(x, "ef(0=0)");
        Due.is("hunted", 1, x.likes(2, 3));
        Due.is("not hunted", 0, x.likes(2, 2));
        Due.law(x, "ej+10*n+100*p+1000*o(0=0)");
        Due.is("far ones, too", 2313, x.likes(2, 3));
        Due.is("of a man: no clothes", 99 + 30 + 400, x.likes(5, 4));
        Due.is("himself is no other one", 1429, x.likes(5, 3));
        Due.is("of one turned later", 1429, x.likes(8, 3));
        Due.is("not told", -1, x.likes(2, 5));
        Due.is("no such place", -1, x.likes(2, 12));
        Due.is("no such place", -1, x.likes(2, -1));
        Due.is("not told", -1, x.likes(0, 1));
        Due.is("no such knight", -1, x.likes(9, 1));
        Due.is("no such knight", -1, x.likes(-1, 1));
        Due.law(x, "e0(0=0)");
        x.days(1);
        Due.law(x, "ej+10*n+100*p+1000*o(0=0)");
        Due.is("dead", 2, x.knightIs(8, 2));
        Due.is("of a dead one", -1, x.likes(8, 1));
        Due.is("a dead one is not seen", 1313, x.likes(2, 3));
        WolfKnight y = Due.row(2);
        y.knight(0, 0, 0);
        Due.is("no law", 0, y.likes(0, 1));
    }

    private static void promise15ManAgain() {
        WolfKnight x = Due.row(3);
        Due.law(x, "e1(p=0&t>3);e1(p=1&t<2)");
        x.knight(0, 0, 3);
        x.knight(1, 2, 0);
        Due.is("a man", -3, x.manAgain(0, 5));
        x.days(1);
        Due.is("at 1", 1, x.knightIs(0, 0));
        Due.is("back on the fifth day", 4, x.manAgain(0, 240));
        Due.is("in just so many", 4, x.manAgain(0, 4));
        Due.is("not in these", -2, x.manAgain(0, 3));
        Due.is("no such n", -1, x.manAgain(0, 0));
        Due.is("no such n", -1, x.manAgain(0, 241));
        Due.is("no such n, of a man", -1, x.manAgain(1, 0));
        Due.is("a man", -3, x.manAgain(1, 1));
        Due.is("not told", -1, x.manAgain(2, 1));
        Due.is("no such knight", -1, x.manAgain(9, 1));
        Due.is("no such knight", -1, x.manAgain(-1, 1));
        Due.is("nothing is changed", 1, x.count(0));
        Due.hunts(x, 0, "4.h");
        Due.is("dead ahead of it", -2, x.manAgain(0, 240));
        x.days(6);
        Due.is("he is dead", 2, x.knightIs(0, 2));
        Due.is("he is no wolf", -3, x.manAgain(0, 1));
        Due.is("no such n, of a dead one", -1, x.manAgain(0, 0));
    }

    private static void promise16DeadFirst() {
        WolfKnight x = Due.row(4);
        x.knight(7, 1, 127);
        x.knight(4, 1, 127);
        x.knight(5, 3, 127);
        x.knight(0, 2, 0);
        Due.hunts(x, 1, "5.h");
        Due.hunts(x, 3, "6.h");
        Due.hunts(x, 2, "h");
        Due.is("no such n", -1, x.deadFirst(0, 0));
        Due.is("no such n", -1, x.deadFirst(241, 0));
        Due.is("no such what", -1, x.deadFirst(9, 2));
        Due.is("no such what", -1, x.deadFirst(9, -1));
        Due.is("who", 4, x.deadFirst(9, 0));
        Due.is("behind how many", 6, x.deadFirst(9, 1));
        Due.is("in just so many", 6, x.deadFirst(6, 1));
        Due.is("nobody", -2, x.deadFirst(5, 0));
        Due.is("nobody", -2, x.deadFirst(5, 1));
        Due.is("nothing is changed", 0, x.count(0) + x.count(5));
        x.days(6);
        Due.is("those dead are not first", 5, x.deadFirst(9, 0));
        Due.is("those dead are not first", 1, x.deadFirst(9, 1));
        x.days(1);
        Due.is("nobody is left", -2, x.deadFirst(240, 0));
        Due.is("without knights", -2, new WolfKnight().deadFirst(1, 0));
    }

    private static void homeIs(String told, WolfKnight x, int... row) {
        Due.is("home, " + told, row.length, x.home(0, 100));
        for (int i = 0; i < row.length; i++) {
            Due.is("home, " + told + ", at " + i, row[i], x.home(0, i));
        }
        Due.is("home, " + told + ", behind it", row.length < 60 ? -4 : -1, x.home(0, row.length));
    }

    private static void promise17Home() {
        WolfKnight x = Due.row(4);
        x.next(0, 1, false);
        x.next(0, 2, true);
        x.next(1, 3, true);
        x.next(2, 1, false);
        // Now 1 and 2 are next to 3, and 2 alone is next to 0.
        x.knight(0, 0, 0);
        Due.diary(x, "a+;a>3");
        homeIs("past the lower 1", x, 2, 0);
        x.next(0, 1, true);
        homeIs("the least row", x, 1, 0);
        x.knight(0, 2, 0);
        Due.diary(x, "a+;a>3");
        homeIs("a step", x, 2);
        x.knight(0, 0, 0);
        Due.diary(x, "a+;a>3");
        Due.hunts(x, 1, "h.");
        homeIs("past a hunt", x, 2, 0);
        Due.hunts(x, 2, "h.");
        homeIs("waiting a day", x, 3, 1, 0);
        Due.hunts(x, 3, "h.");
        Due.is("no place left", -2, x.home(0, 100));
        Due.is("no place left", -2, x.home(0, 0));
        Due.hunts(x, 3, ".");
        Due.hunts(x, 0, "2h2.");
        homeIs("hunted where the clothes lie", x, 3, 1, 0);
        Due.hunts(x, 1, ".");
        Due.hunts(x, 0, "3h.");
        homeIs("the least row, waiting", x, 1, 1, 1, 0);
        x.days(0);
        Due.is("nothing is changed", 3, x.knightIs(0, 0));
    }

    private static void promise17WolfDays() {
        WolfKnight x = Due.row(2);
        x.knight(0, 0, 31);
        Due.diary(x, "a+;a>1");
        homeIs("on no wolf day", x, 0, 0, 0, 0, 0, 0);
        x.first(6);
        homeIs("at once", x, 0);
        Due.diary(x, "a>0");
        homeIs("one day at least", x, 0);
        x.first(0);
        homeIs("staying there", x, 0, 0, 0, 0, 0, 0);
        x.knight(0, 0, 127);
        Due.diary(x, "a+");
        Due.is("all days are wolf days", -2, x.home(0, 100));
        // A place that is free on each tenth day, and not on the wolf days: behind 59 of them first.
        x.knight(0, 1, 127 - 8);
        Due.diary(x, "a+;a>0");
        Due.hunts(x, 1, "9h.");
        Due.is("by 60", 60, x.home(0, 100));
        Due.is("the last place", 1, x.home(0, 59));
        Due.is("the one ahead of it", 0, x.home(0, 58));
        Due.is("the least row does not go there ahead of it", 0, x.home(0, 9));
        x.knight(0, 1, 127 - 16);
        Due.diary(x, "a+;a>0");
        Due.hunts(x, 1, ".9h");
        Due.is("not by 60", -2, x.home(0, 100));
        Due.is("not by 60, whatever place", -2, x.home(0, 59));
        x.days(1);
        Due.is("from the day on", 60, x.home(0, 100));
    }

    private static void promise17Refused() {
        WolfKnight x = Due.row(3);
        x.knight(0, 0, 0);
        x.knight(1, 2, 127);
        Due.is("a man", -3, x.home(0, 100));
        Due.is("a man, no such what", -1, x.home(0, 60));
        Due.is("not told", -1, x.home(2, 100));
        Due.is("no such knight", -1, x.home(-1, 100));
        Due.is("no such knight", -1, x.home(9, 0));
        Due.diary(x, "a+");
        for (int what : new int[] {-1, 60, 99, 101, MIN}) {
            Due.is("home(0, " + what + ")", -1, x.home(0, what));
        }
        Due.is("no such place", -4, x.home(0, 1));
        Due.is("no such place", -4, x.home(0, 59));
        Due.hunts(x, 2, "h");
        x.days(1);
        Due.is("dead", 2, x.knightIs(1, 2));
        Due.is("a dead one", -3, x.home(1, 0));
        x.place(7);
        x.knight(0, 0, 0);
        Due.diary(x, "a+;a@7");
        Due.is("no way", -2, x.home(0, 100));
        Due.is("no way, whatever place", -2, x.home(0, 1));
    }

    public static void main(String[] args) {
        promise10WhereHeGoes();
        promise10Steps();
        promise10Hunts();
        promise10Spared();
        promise10ByNumbers();
        promise10Draws();
        promise10MoreDraws();
        promise10WhatTheLawSees();
        promise10PlaceEleven();
        promise10Days();
        promise11Tried();
        promise12KnightIs();
        promise13Hunted();
        promise14Reckoning();
        promise14Conditions();
        promise14Refused();
        promise14Likes();
        promise15ManAgain();
        promise16DeadFirst();
        promise17Home();
        promise17WolfDays();
        promise17Refused();
        Due.close("DaysTest");
    }
}
