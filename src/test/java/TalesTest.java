/** Promises 24 to 26: who is suspected, whom the wolf hates, how suits fit. */
public final class TalesTest {
    private TalesTest() {
    }

    private static void promise24Absences() {
        WolfKnight x = Due.row(1);
        x.days(8);
        // The day 8 has weekday 1, the days ahead of it 0 6 5 4 3 2.
        x.knight(0, 0, 2);
        x.knight(1, 0, 1);
        x.knight(4, 0, 127);
        x.knight(8, 0, 0);
        Due.is("nothing is known: all can", 275, Due.absences(x, "?", 0));
        Due.is("nothing is known: all can", 275, Due.absences(x, "?", 1));
        Due.is("nothing is known: all can", 127, Due.absences(x, "?", 2));
        Due.is("present today", 2 + 256, Due.absences(x, "p", 0));
        Due.is("present yesterday", 1 + 256, Due.absences(x, "?p", 0));
        Due.is("present on both", 256, Due.absences(x, "pp", 0));
        Due.is("absent today", 275, Due.absences(x, "a", 0));
        Due.is("absent on wolf days alone", 1 + 16, Due.absences(x, "a", 1));
        Due.is("absent yesterday", 2 + 16, Due.absences(x, "?a", 1));
        Due.is("absent on both", 16, Due.absences(x, "aa", 1));
        Due.is("present and absent", 1, Due.absences(x, "ap", 1));
        Due.is("present and absent", 2, Due.absences(x, "pa", 1));
        Due.is("a week back", 1 + 16, Due.absences(x, "???????a", 1));
        Due.is("a week back", 2 + 256, Due.absences(x, "???????p", 0));
        Due.is("behind the day 0", 2 + 16, Due.absences(x, "?".repeat(15) + "a", 1));
        Due.is("60 days", 2 + 256, Due.absences(x, "?".repeat(56) + "p???", 0));
        Due.is("once present, once absent on one weekday", 0, Due.absences(x, "p??????a", 1));
        x.first(3);
        Due.is("weekday 4", 275 - 16, Due.absences(x, "p", 0));
        Due.is("weekdays 4 3 2 1", 2 + 256, Due.absences(x, "?p?p", 0));
    }

    private static void promise24Weekdays() {
        WolfKnight x = Due.row(1);
        Due.is("all", 127, Due.absences(x, "?", 2));
        Due.is("weekday 0", 127 - 1 - 64 - 32, Due.absences(x, "p", 2));
        Due.is("weekdays 0 6 4", 2, Due.absences(x, "pp?p", 2));
        Due.is("weekday 6", 127 - 64 - 32 - 16, Due.absences(x, "?p", 2));
        Due.is("weekdays 0 3", 16, Due.absences(x, "p???p", 2));
        Due.is("weekdays 0 2 4 6", 0, Due.absences(x, "pp?p?p", 2));
        x.days(3);
        Due.is("weekday 3", 127 - 8 - 4 - 2, Due.absences(x, "p", 2));
        x.first(2);
        Due.is("weekday 5", 127 - 32 - 16 - 8, Due.absences(x, "p", 2));
        Due.is("those present alone matter", 127 - 32 - 16 - 8, Due.absences(x, "paaaaaa", 2));
    }

    private static void promise24Refused() {
        WolfKnight x = Due.row(1);
        x.knight(0, 0, 127);
        Due.is("no bytes", -1, x.absences(1, 0));
        Due.is("no such sign", -1000, Due.absences(x, "x", 0));
        Due.is("no such sign", -1002, Due.absences(x, "pa.?", 1));
        Due.is("no such sign", -1001, Due.absences(x, "aP", 2));
        Due.is("the tape is empty", 0, x.count(7));
        Due.feed(x, "aaaa");
        Due.is("no such n", -1, x.absences(0, 0));
        Due.is("not so many", -1, x.absences(21, 0));
        Due.is("no such what", -1, x.absences(1, 3));
        Due.is("no such what", -1, x.absences(1, -1));
        Due.is("the tape stays", 20, x.count(7));
        Due.is("the first bytes", 1, x.absences(4, 1));
        Due.is("the tape is empty", 0, x.count(7));
        Due.hunts(x, 0, "h");
        x.days(1);
        Due.is("dead ones, too", 1, Due.absences(x, "a", 1));
        Due.is("60 bytes", 1, Due.absences(x, "a".repeat(60), 1));
        Due.feed(x, "a".repeat(80));
        Due.is("61 bytes", -1, x.absences(61, 0));
        Due.is("the tape stays", 80, x.count(7));
    }

    private static void hated(String told, int many, int lower, int upper, int... evenings) {
        WolfKnight x = new WolfKnight();
        Due.is("hated, " + told, many, Due.hated(x, 0, evenings));
        Due.is("the first, " + told, lower, Due.hated(x, 1, evenings));
        Due.is("the second, " + told, upper, Due.hated(x, 2, evenings));
        Due.is("the tape is empty", 0, x.count(7));
    }

    private static void promise25Hated() {
        hated("nobody came", 66, 0, 1, 0);
        hated("all came, none was bitten", 0, -2, -2, 4095);
        hated("nobody came, one was bitten", 0, -2, -2, 0x8000);
        hated("all came, one was bitten", 66, 0, 1, 0x8fff);
        hated("the first one", 11, 0, 1, 0x8001);
        hated("the last one", 11, 0, 11, 0x8800);
        hated("the last two", 1, 10, 11, 0x8800, 0x8400);
        hated("one of two", 21, 0, 1, 0x8003);
        hated("others left out", 1, 4, 7, 0x8090, 0x0f6f);
        hated("one on one evening, the other on another", 1, 2, 5, 0x8004, 0x8020);
        hated("three on three evenings", 0, -2, -2, 0x8004, 0x8020, 0x8040);
        hated("bitten and not", 0, -2, -2, 0x8004, 0x0004);
        hated("bits between are free", 11, 0, 1, 0xf001);
        hated("bits between are free", 55, 1, 2, 0x7001);
        int[] sixteen = new int[16];
        sixteen[15] = 0x8100;
        hated("sixteen evenings", 11, 0, 8, sixteen);
    }

    private static void promise25Refused() {
        WolfKnight x = new WolfKnight();
        Due.feed(x, new byte[20]);
        Due.is("no such n", -1, x.hated(0, 0));
        Due.is("no such n", -1, x.hated(-1, 0));
        Due.is("not so many", -1, x.hated(11, 0));
        Due.is("no such what", -1, x.hated(1, 3));
        Due.is("no such what", -1, x.hated(1, -1));
        Due.is("the tape stays", 20, x.count(7));
        Due.feed(x, new byte[20]);
        Due.is("no such n", -1, x.hated(17, 0));
        Due.is("no such n", -1, x.hated(Integer.MAX_VALUE, 0));
        Due.is("no such n", -1, x.hated(1 << 30 | 1 << 31, 0));
        Due.is("the tape stays", 40, x.count(7));
        Due.is("as many as there are", 66, x.hated(16, 0));
        Due.feed(x, new byte[20]);
        Due.is("just so many", 66, x.hated(10, 0));
    }

    private static void suits(String told, int want, int without, int... barons) {
        WolfKnight x = new WolfKnight();
        Due.is("suits, " + told, want, Due.suits(x, without, barons));
        Due.is("the tape is empty", 0, x.count(7));
    }

    private static void promise26Suits() {
        suits("none fits", 0, -1, 0);
        suits("one fits", 1, -1, 256);
        suits("nine fit", 9, -1, 511);
        suits("eight without the last", 8, 8, 511);
        suits("eight without the first", 8, 0, 511);
        suits("each his own", 1, -1, 1, 2);
        suits("both the same", 0, -1, 4, 4);
        suits("two of three", 2, -1, 3, 3);
        suits("in turn", 3, -1, 3, 6);
        suits("in turn, without", 1, 1, 3, 6);
        suits("not without", 0, 0, 1, 6);
        suits("bits above are free", 1, -1, 0xfe01);
        int[] nine = {511, 511, 511, 511, 511, 511, 511, 511, 511};
        suits("nine of nine", 362880, -1, nine);
        suits("nine of eight", 0, 4, nine);
        suits("eight of eight", 40320, 4, 511, 511, 511, 511, 511, 511, 511, 511);
        suits("a chain", 2, -1, 3, 6, 12, 24, 48, 96, 192, 384, 257);
        suits("no such suit", -2, 9, 511);
        suits("no such suit", -2, -2, 511);
        suits("no such suit", -2, Integer.MIN_VALUE, 511);
    }

    private static void promise26Refused() {
        WolfKnight x = new WolfKnight();
        Due.is("no bytes", -1, x.suits(1, 9));
        Due.feed(x, Due.pairs(511, 511, 511, 511));
        Due.is("no such n", -1, x.suits(0, -1));
        Due.is("no such n", -1, x.suits(-1, -1));
        Due.is("no such n", -1, x.suits(10, -1));
        Due.is("no such n, no such suit", -1, x.suits(10, 9));
        Due.is("no such n", -1, x.suits(1 << 31 | 1, -1));
        Due.is("the tape stays", 20, x.count(7));
        Due.is("the first bytes", 72, x.suits(2, -1));
        WolfKnight y = new WolfKnight();
        Due.feed(y, new byte[20]);
        y.check(0);
        Due.is("not so many", -1, y.suits(1, -1));
    }

    public static void main(String[] args) {
        promise24Absences();
        promise24Weekdays();
        promise24Refused();
        promise25Hated();
        promise25Refused();
        promise26Suits();
        promise26Refused();
        Due.close("TalesTest");
    }
}
