/** Promises 1 to 6 and 32 to 36: what is told, the tape, what is kept, checked and counted. */
public final class ToldTest {
    private ToldTest() {
    }

    private static void promise1NewObject() {
        WolfKnight x = new WolfKnight();
        Due.is("NONE", -1, WolfKnight.NONE);
        for (int what = 0; what <= 7; what++) {
            Due.is("new: count(" + what + ")", 0, x.count(what));
        }
        Due.is("new: X", 1, x.count(8));
        for (int p = 0; p < 12; p++) {
            Due.is("new: next to " + p, -1, x.count(20 + p));
            Due.is("new: hunts of " + p, 0, x.count(40 + p));
            Due.is("new: hunted " + p, 0, x.hunted(p, 0));
        }
        for (int k = 0; k < 9; k++) {
            Due.is("new: knight " + k, -1, x.knightIs(k, 0));
        }
        Due.is("new: middle", -2, x.middle());
        Due.no("new: undo", x.undo());
    }

    private static void promise2Place() {
        WolfKnight x = new WolfKnight();
        Due.no("place(-1)", x.place(-1));
        Due.no("place(12)", x.place(12));
        Due.no("place(32)", x.place(32));
        Due.no("place(min)", x.place(Integer.MIN_VALUE));
        Due.is("none is told", 0, x.count(2));
        Due.yes("place(0)", x.place(0));
        Due.yes("place(11)", x.place(11));
        Due.is("two are told", 1 | 1 << 11, x.count(2));
        Due.is("alone", 1, x.rumour(0, 2));
        Due.is("alone", 1, x.between(0, 0));
        Due.is("alone", 0, x.between(0, 11));
        x.next(0, 11, true);
        Due.yes("place(0) again", x.place(0));
        Due.is("as before", 1 << 11, x.count(20));
        Due.is("as before", 1 | 1 << 11, x.count(2));
    }

    private static void promise3Next() {
        WolfKnight x = Due.row(2);
        x.place(11);
        Due.is("both ways", 2, x.count(20));
        Due.is("both ways", 1, x.count(21));
        Due.is("not at first", 0, x.count(31));
        Due.no("the same", x.next(1, 1, true));
        Due.no("not told", x.next(1, 2, true));
        Due.no("not told", x.next(2, 1, true));
        Due.no("not told", x.next(2, 1, false));
        Due.no("no place", x.next(-1, 1, true));
        Due.no("no place", x.next(0, 12, true));
        Due.no("no place", x.next(33, 0, true));
        Due.yes("next(11, 0)", x.next(11, 0, true));
        Due.is("next to 0", 2 | 1 << 11, x.count(20));
        Due.is("next to 11", 1, x.count(31));
        Due.yes("not next", x.next(1, 0, false));
        Due.is("next to 0", 1 << 11, x.count(20));
        Due.is("next to 1", 0, x.count(21));
        Due.yes("not next again", x.next(1, 0, false));
        Due.is("no way any more", 0, x.between(0, 1));
    }

    private static void promise4Knight() {
        WolfKnight x = Due.row(3);
        Due.no("no such knight", x.knight(-1, 0, 0));
        Due.no("no such knight", x.knight(9, 0, 0));
        Due.no("no such knight", x.knight(32, 0, 0));
        Due.no("place not told", x.knight(0, 3, 0));
        Due.no("no such place", x.knight(0, -1, 0));
        Due.no("no such place", x.knight(0, 12, 0));
        Due.no("wolf days too small", x.knight(0, 0, -1));
        Due.no("wolf days too large", x.knight(0, 0, 128));
        Due.is("none is told", 0, x.count(3));
        Due.yes("knight(8, 2, 127)", x.knight(8, 2, 127));
        Due.yes("knight(0, 1, 0)", x.knight(0, 1, 0));
        Due.is("told ones", 257, x.count(3));
        Due.is("place", 2, x.knightIs(8, 0));
        Due.is("wolf days", 127, x.knightIs(8, 1));
        Due.is("a man", 0, x.knightIs(8, 2));
        Due.is("worn", -2, x.knightIs(8, 3));
        x.days(1);
        Due.is("a wolf", 1, x.knightIs(8, 2));
        Due.no("refused", x.knight(8, 5, 1));
        Due.is("as it was", 1, x.knightIs(8, 2));
        Due.yes("in place of the one before", x.knight(8, 0, 1));
        Due.is("a man", 0, x.knightIs(8, 2));
        Due.is("worn", -2, x.knightIs(8, 3));
        Due.is("place", 0, x.knightIs(8, 0));
        Due.is("wolf days", 1, x.knightIs(8, 1));
        Due.hunts(x, 1, "h");
        x.knight(0, 1, 127);
        x.days(1);
        Due.is("dead", 2, x.knightIs(0, 2));
        Due.yes("in place of a dead one", x.knight(0, 2, 0));
        Due.is("a man", 0, x.knightIs(0, 2));
        Due.is("none is dead", 0, x.count(5));
    }

    private static void promise5First() {
        WolfKnight x = Due.row(1);
        Due.no("first(-1)", x.first(-1));
        Due.no("first(7)", x.first(7));
        Due.is("0 at first", 0, x.count(1));
        Due.yes("first(6)", x.first(6));
        Due.is("weekday", 6, x.count(1));
        x.days(1);
        Due.is("round the week", 0, x.count(1));
        Due.yes("first(0)", x.first(0));
        Due.is("weekday", 1, x.count(1));
        x.days(6);
        Due.is("weekday", 0, x.count(1));
        Due.no("first(8)", x.first(8));
        Due.is("as it was", 0, x.count(1));
    }

    private static void promise6Feed() {
        WolfKnight x = new WolfKnight();
        Due.is("feed", 20, x.feed(0x70616e63, 0, 0, 0, 0));
        Due.is("the highest byte first", -1002, x.absences(4, 0));
        for (int i = 1; i <= 13; i++) {
            Due.is("feed " + i, 20 * i, x.feed(i, 0, 0, 0, 0xff));
        }
        Due.is("a 261st byte", -1, x.feed(0, 0, 0, 0, 0));
        Due.is("tape", 260, x.count(7));
        Due.is("bytes 0 0 0 1", 0, x.check(4));
        Due.is("empty", 0, x.count(7));
        WolfKnight y = Due.row(12);
        y.knight(0, 1, 0);
        y.knight(1, 2, 0);
        y.knight(2, 3, 0);
        y.knight(3, 4, 0);
        y.knight(4, 5, 0);
        y.feed(0x01020304, 0x05ffffff, 0xff000000, 0, 0);
        Due.is("bytes in order", -1, y.check(9));
        y.feed(0x01020304, 0x05ffffff, 0, 0, 0);
        y.feed(0x01020304, 0x05ffffff, 0xff000000, 0, 0);
        Due.is("the second behind the first", 8, y.check(9));
    }

    private static void promise32Seed() {
        WolfKnight x = Due.row(2);
        x.knight(0, 0, 127);
        Due.no("seed(-1)", x.seed(-1));
        Due.no("seed(65536)", x.seed(65536));
        Due.is("X as it was", 1, x.count(8));
        Due.yes("seed(65535)", x.seed(65535));
        Due.is("X", 65535, x.count(8));
        x.days(1);
        Due.is("25173 * 65535 + 13849 modulo 65536", (int) ((25173L * 65535 + 13849) % 65536), x.count(8));
        Due.yes("seed(0)", x.seed(0));
        x.days(1);
        Due.is("X", 13849, x.count(8));
        x.days(1);
        Due.is("X", (int) ((25173L * 13849 + 13849) % 65536), x.count(8));
    }

    private static void promises33And34KeepAndUndo() {
        WolfKnight x = Due.row(3);
        Due.no("none was kept", x.undo());
        x.knight(0, 0, 1);
        x.knight(1, 1, 0);
        Due.law(x, "e1(p>n);h5(0=0)");
        Due.is("keep", 0, x.keep());
        Due.is("days", 0, x.days(3));
        int later = x.count(8);
        int wolfAt = x.knightIs(0, 0);
        x.knight(2, 2, 3);
        x.knight(1, 2, 9);
        x.first(4);
        x.place(5);
        Due.hunts(x, 5, "h.");
        Due.feed(x, "abc");
        Due.yes("undo", x.undo());
        Due.is("the day", 0, x.count(0));
        Due.is("X", 1, x.count(8));
        Due.is("knights", 3, x.count(3));
        Due.is("wolves", 0, x.count(4));
        Due.is("place", 0, x.knightIs(0, 0));
        Due.is("clothes", -2, x.knightIs(0, 3));
        Due.is("place", 1, x.knightIs(1, 0));
        Due.is("wolf days", 0, x.knightIs(1, 1));
        Due.is("the first stays", 4, x.count(1));
        Due.is("places stay", 39, x.count(2));
        Due.is("hunts stay", 2, x.count(45));
        Due.is("the tape stays", 20, x.count(7));
        Due.is("the law stays", 2, x.count(6));
        x.check(0);
        x.first(0);
        x.days(3);
        Due.is("the same draws", later, x.count(8));
        Due.is("the same ways", wolfAt, x.knightIs(0, 0));
        Due.is("kept later", 3, x.keep());
        x.days(2);
        Due.yes("undo", x.undo());
        Due.is("kept last", 3, x.count(0));
        Due.is("a wolf again", 1, x.count(4));
        Due.is("his clothes", 1, x.knightIs(0, 3));
        Due.is("X", later, x.count(8));
        x.days(7);
        Due.yes("undo once more", x.undo());
        Due.is("kept last", 3, x.count(0));
    }

    private static void promise35Check() {
        WolfKnight x = Due.row(12);
        x.knight(0, 3, 0);
        x.knight(2, 11, 0);
        Due.is("too few bytes", -2, x.check(1));
        Due.is("of nothing", -1, x.check(0));
        byte[] right = {3, -1, 11, -1, -1, -1, -1, -1, -1};
        Due.feed(x, right);
        Due.is("too small", -2, x.check(-1));
        Due.is("too large", -2, x.check(10));
        Due.is("the tape stays", 20, x.count(7));
        Due.is("right", -1, x.check(9));
        Due.is("the tape is empty", 0, x.count(7));
        for (int wrong = 8; wrong >= 0; wrong--) {
            right[wrong] = 77;
            Due.feed(x, right);
            Due.is("wrong at " + wrong, wrong, x.check(9));
            Due.feed(x, right);
            Due.is("right ahead of " + wrong, -1, x.check(wrong));
            Due.is("the tape is empty", 0, x.count(7));
        }
        Due.hunts(x, 4, "h");
        x.knight(0, 4, 127);
        x.days(1);
        Due.feed(x, new byte[] {4});
        Due.is("of a dead one, too", -1, x.check(1));
    }

    private static void promise36Count() {
        WolfKnight x = Due.row(4);
        x.knight(0, 0, 127);
        x.knight(3, 3, 127);
        x.knight(5, 2, 0);
        Due.hunts(x, 3, "h2.");
        Due.hunts(x, 11, "9.");
        Due.law(x, "s(k=0);e1(k=1)");
        Due.feed(x, "some bytes");
        x.first(5);
        x.days(1);
        Due.is("the day", 1, x.count(0));
        Due.is("weekday", 6, x.count(1));
        Due.is("places", 15, x.count(2));
        Due.is("knights", 41, x.count(3));
        Due.is("wolves", 1, x.count(4));
        Due.is("dead", 8, x.count(5));
        Due.is("rules", 2, x.count(6));
        Due.is("tape", 20, x.count(7));
        int two = (int) ((25173L * ((25173L + 13849) % 65536) + 13849) % 65536);
        Due.is("X behind two draws", two, x.count(8));
        Due.is("next to 1", 5, x.count(21));
        Due.is("next to 3", 4, x.count(23));
        Due.is("not told", -1, x.count(24));
        Due.is("days of hunts", 3, x.count(43));
        Due.is("days of hunts of one not told", 9, x.count(51));
        Due.is("none", 0, x.count(40));
        x.check(0);
        Due.hunts(x, 0, "2.h");
        Due.is("days of hunts", 3, x.count(40));
        for (int other : new int[] {-1, 9, 19, 32, 39, 52, 1000, Integer.MIN_VALUE, Integer.MAX_VALUE}) {
            Due.is("count(" + other + ")", -1, x.count(other));
        }
    }

    public static void main(String[] args) {
        promise1NewObject();
        promise2Place();
        promise3Next();
        promise4Knight();
        promise5First();
        promise6Feed();
        promise32Seed();
        promises33And34KeepAndUndo();
        promise35Check();
        promise36Count();
        Due.close("ToldTest");
    }
}
