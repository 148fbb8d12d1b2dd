/** Edges of absences, the hated ones and suits: promises 24 to 26. */
final class EdgesOfTales {
    private static final int MIN = Integer.MIN_VALUE;
    private static final int MAX = Integer.MAX_VALUE;

    private EdgesOfTales() {
    }

    static Runnable[] parts() {
        return new Runnable[] {
            EdgesOfTales::termsOfAbsences, EdgesOfTales::promise24, EdgesOfTales::termsOfHated,
            EdgesOfTales::promise25, EdgesOfTales::termsOfSuits, EdgesOfTales::promise26
        };
    }

    // ---- absences ----

    private static void absences(WolfKnight x, String text, int meant, int alone, int weekdays) {
        Due.is("absences " + text, meant, Due.absences(x, text, 0));
        Due.is("alone, absences " + text, alone, Due.absences(x, text, 1));
        Due.is("weekdays, absences " + text, weekdays, Due.absences(x, text, 2));
    }

    private static void termsOfAbsences() {
        Edge.of("Terms", "ABSENCES: a TEXT of at most 60 bytes, from THE DAY on back (the first one is THE DAY):");
        WolfKnight x = Due.row(1);
        x.knight(0, 0, 1);
        x.knight(1, 0, 64);
        x.knight(8, 0, 8);
        Due.is("the first one is the day", 2 + 256, Due.absences(x, "p", 0));
        Due.is("the one behind it is the day before", 1 + 256, Due.absences(x, "?p", 0));
        Due.is("four days ago", 3, Due.absences(x, "????p", 0));
        Due.is("a week ago", 2 + 256, Due.absences(x, "???????p", 0));
        Due.is("59 days ago", 3, Due.absences(x, "?".repeat(53) + "p", 0));
        Due.is("59 days ago, weekday 4", 3 + 256, Due.absences(x, "?".repeat(59) + "p", 0));
        Due.is("56 days ago, weekday 0", 2 + 256, Due.absences(x, "?".repeat(56) + "p", 0));
        Due.is("61", -1, Due.absences(x, "?".repeat(61), 0));
        x.check(0);
        x.days(1);
        Due.is("the day is 1", 3 + 256, Due.absences(x, "p", 0));
        Due.is("the day before is 0", 2 + 256, Due.absences(x, "?p", 0));
        x.first(6);
        Due.is("by the first, weekday 0", 2 + 256, Due.absences(x, "p", 0));
        Edge.of("Terms", "p (present), a (absent), ? (not known):");
        absences(x, "p", 2 + 256, 2 + 256, 2 + 4 + 8 + 16);
        absences(x, "a", 1 + 2 + 256, 1, 127);
        absences(x, "?", 1 + 2 + 256, 1 + 2 + 256, 127);
        Edge.of("Terms", "told KNIGHTS (bits) that can be meant (never present on a WOLF DAY of theirs);");
        x.knight(2, 0, 127);
        x.knight(3, 0, 0);
        Due.is("all", 256 + 15, Due.absences(x, "a", 0));
        Due.is("present once", 256 + 8 + 2, Due.absences(x, "p", 0));
        Due.is("present once, however often absent", 256 + 8 + 2, Due.absences(x, "a??????p??????a", 0));
        Due.is("present always", 8, Due.absences(x, "ppppppp", 0));
        Due.is("nobody is told", 0, Due.absences(new WolfKnight(), "?", 0));
        Edge.of("Terms", "that moreover were absent on WOLF DAYS alone;");
        Due.is("absent once", 1 + 4, Due.absences(x, "a", 1));
        Due.is("absent once, once on another day", 4, Due.absences(x, "aa", 1));
        Due.is("absent on the day before alone", 2 + 4, Due.absences(x, "?a", 1));
        Due.is("absent and present", 1, Due.absences(x, "ap", 1));
        Due.is("absent and present on one weekday", 0, Due.absences(x, "p??????a", 1));
        Due.is("never absent", 256 + 15, Due.absences(x, "???", 1));
        Due.is("never absent, present", 256 + 8 + 2, Due.absences(x, "p", 1));
        Edge.of("Terms", "weekdays d (bits, 0 to 6) so that WOLF DAYS of d and the two behind it can be meant so.");
        x.first(5);
        for (int weekday = 6; weekday >= 0; weekday--) {
            String text = "?".repeat(6 - weekday) + "p";
            int spoiled = 1 << weekday | 1 << (weekday + 6) % 7 | 1 << (weekday + 5) % 7;
            Due.is("present on weekday " + weekday, 127 - spoiled, Due.absences(x, text, 2));
        }
        Due.is("5 6 0 alone", 32, Due.absences(x, "?" + "?" + "pppp", 2));
        Due.is("none", 0, Due.absences(x, "ppppppp", 2));
        Due.is("absent on all days", 127, Due.absences(x, "aaaaaaa", 2));
    }

    private static void promise24() {
        Edge.of("Terms", "FAULT: 1 what can't stand there.");
        for (int b = 0; b < 256; b++) {
            if ("pa?".indexOf(b) < 0) {
                Due.is("absences p" + (char) b, -1001, Due.absences(new WolfKnight(), "p" + (char) b, b % 3));
            }
        }
        WolfKnight x = Due.row(1);
        x.knight(0, 0, 1);
        for (int what = 0; what <= 2; what++) {
            Due.is("x", -1000, Due.absences(x, "x", what));
            Due.is("paP", -1002, Due.absences(x, "paP", what));
            Due.is("p?.x", -1002, Due.absences(x, "p?.x", what));
            Due.is("byte 0", -1001, Due.absences(x, "p\u0000", what));
            Due.is("byte 255", -1059, Due.absences(x, "?".repeat(59) + "\u00ff", what));
            Due.is("empty", 0, x.count(7));
        }
        Edge.of("Promise 24", "ABSENCES by the first n bytes of the tape (1 to 60; empty then),"
                + " what 0 KNIGHTS that can be meant, 1 those absent on WOLF DAYS alone, 2 weekdays (bits);");
        Due.feed(x, "?px");
        Due.is("the first byte alone", 1, x.absences(1, 0));
        Due.is("empty", 0, x.count(7));
        Due.feed(x, "?px");
        Due.is("the first two alone", 127 - 64 - 32 - 16, x.absences(2, 2));
        Due.is("empty", 0, x.count(7));
        Due.is("sixty", 0, Due.absences(x, "?".repeat(59) + "a", 1));
        Due.is("empty", 0, x.count(7));
        Due.hunts(x, 0, "h");
        x.days(1);
        Due.is("dead ones are told", 1, Due.absences(x, "?", 0));
        Edge.of("Promise 24", "a FAULT;");
        String before = Edge.stateOf(x);
        Due.is("a fault", -1001, Due.absences(x, "?x", 0));
        Edge.same("a fault", before, x);
        Edge.of("Promise 24", "NONE: no such ones, it has not so many (the tape stays).");
        Due.is("no bytes", -1, x.absences(1, 0));
        Due.feed(x, "?".repeat(20));
        before = Edge.stateOf(x);
        for (int n : new int[] {0, -1, 21, MIN, MAX}) {
            Due.is("absences(" + n + ", 0)", -1, x.absences(n, 0));
        }
        for (int what : new int[] {-1, 3, MIN, MAX}) {
            Due.is("absences(1, " + what + ")", -1, x.absences(1, what));
        }
        Edge.same("absences of none", before, x);
        Due.is("all that it has", 1, x.absences(20, 0));
        Due.feed(x, "?".repeat(80));
        Due.is("absences(61, 0)", -1, x.absences(61, 0));
        Due.is("the tape stays", 80, x.count(7));
        Due.is("absences(60, 0)", 1, x.absences(60, 0));
    }

    // ---- hated ----

    private static void hated(int many, int lower, int upper, int... evenings) {
        WolfKnight x = new WolfKnight();
        Due.is("twos, " + evenings.length + " from " + evenings[0], many, Due.hated(x, 0, evenings));
        Due.is("the first, " + evenings.length + " from " + evenings[0], lower, Due.hated(x, 1, evenings));
        Due.is("the second, " + evenings.length + " from " + evenings[0], upper, Due.hated(x, 2, evenings));
    }

    private static int[] row(int many, int like, int last) {
        int[] all = new int[many];
        java.util.Arrays.fill(all, like);
        all[many - 1] = last;
        return all;
    }

    private static void termsOfHated() {
        Edge.of("Terms", "HATED: 1 to 16 evenings, each with guests (of 12, bits) and whether the wolf bit:");
        hated(66, 0, 1, 0);
        hated(11, 0, 1, 0x8001);
        hated(11, 0, 11, 0x8800);
        hated(11, 0, 11, row(16, 0, 0x8800));
        hated(11, 0, 5, row(16, 0x8020, 0));
        hated(55, 1, 2, 1);
        hated(55, 0, 1, 0x0800);
        Edge.of("Terms", "it bites whenever, and only if, one of two is there: in how many twos of guests it can be so;");
        hated(66, 0, 1, 0x8fff);
        hated(0, -2, -2, 0x0fff);
        hated(0, -2, -2, 0x8000);
        hated(21, 0, 1, 0x8003);
        hated(45, 2, 3, 0x0003);
        hated(10, 0, 2, 0x8001, 0x0002);
        hated(1, 3, 7, 0x8008, 0x8080);
        hated(0, -2, -2, 0x8008, 0x8080, 0x8800);
        hated(0, -2, -2, 0x8008, 0x0008);
        hated(1, 3, 7, 0x8088, 0x0f77);
        hated(1, 3, 7, 0x8088, 0x8088, 0x8008, 0x8080);
        Edge.of("Terms", "the least two (lower first).");
        hated(1, 10, 11, 0x8400, 0x8800);
        hated(1, 10, 11, 0x03ff);
        hated(6, 8, 9, 0x00ff);
        hated(16, 0, 8, 0x800f, 0x8f00);
        hated(2, 1, 3, 0x8002, 0x8028);
        hated(2, 0, 5, 0x8020, 0x8003);
    }

    private static void promise25() {
        Edge.of("Promise 25", "HATED by the first 2 n bytes of the tape (evenings; n 1 to 16; two bytes each:"
                + " the highest bit whether it bit, the lowest twelve the guests; empty then),"
                + " what 0 how many twos, 1 the first, 2 the second guest of the least;");
        hated(11, 0, 4, 0xf010);
        hated(55, 0, 1, 0x7010);
        WolfKnight x = new WolfKnight();
        Due.feed(x, Due.pairs(0x8004, 0x8040, 0xffff, 0xffff, 0xffff, 0xffff, 0xffff, 0xffff, 0xffff, 0x0fff));
        Due.is("the first four bytes alone", 2, x.hated(2, 1));
        Due.is("empty", 0, x.count(7));
        Due.feed(x, Due.pairs(0x8004, 0x8040, 0, 0, 0, 0, 0, 0, 0, 0x0800));
        Due.is("all twenty", 1, x.hated(10, 0));
        int[] sixteen = row(16, 0x8004, 0x8800);
        Due.is("sixteen", 11, Due.hated(x, 2, sixteen));
        Due.is("empty", 0, x.count(7));
        Edge.of("Promise 25", "-2 (of 1, 2): none;");
        Due.is("none: how many", 0, Due.hated(x, 0, 0x8000));
        Due.is("none: the first", -2, Due.hated(x, 1, 0x8000));
        Due.is("empty", 0, x.count(7));
        Due.is("none: the second", -2, Due.hated(x, 2, 0x8000));
        Due.is("empty", 0, x.count(7));
        Edge.of("Promise 25", "NONE: no such ones, it has not so many (the tape stays).");
        Due.is("no bytes", -1, x.hated(1, 0));
        Due.feed(x, new byte[20]);
        String before = Edge.stateOf(x);
        for (int n : new int[] {0, -1, 11, 17, MIN, MAX, MIN + 1, 1 << 30}) {
            Due.is("hated(" + n + ", 0)", -1, x.hated(n, 0));
        }
        for (int what : new int[] {-1, 3, MIN, MAX}) {
            Due.is("hated(1, " + what + ")", -1, x.hated(1, what));
        }
        Edge.same("hated of none", before, x);
        Due.is("all that it has", 66, x.hated(10, 0));
        Due.feed(x, new byte[40]);
        Due.is("hated(17, 0)", -1, x.hated(17, 0));
        Due.is("the tape stays", 40, x.count(7));
        Due.is("hated(16, 0)", 66, x.hated(16, 0));
    }

    // ---- suits ----

    private static void suits(int want, int without, int... barons) {
        Due.is("suits of " + barons.length + " without " + without, want, Due.suits(new WolfKnight(), without, barons));
    }

    private static void termsOfSuits() {
        Edge.of("Terms", "SUITS: 1 to 9 barons, each with suits (of 9, bits) that would fit him: in how many ways each gets"
                + " one of his own;");
        suits(0, -1, 0);
        suits(1, -1, 1);
        suits(1, -1, 256);
        suits(9, -1, 511);
        suits(72, -1, 511, 511);
        suits(0, -1, 256, 256);
        suits(1, -1, 1, 257);
        suits(2, -1, 257, 257);
        suits(0, -1, 257, 257, 257);
        suits(0, -1, 511, 0);
        int[] nine = row(9, 511, 511);
        suits(362880, -1, nine);
        suits(40320, -1, row(9, 511, 256));
        suits(0, -1, row(9, 255, 255));
        suits(1, -1, 1, 2, 4, 8, 16, 32, 64, 128, 256);
        suits(2, -1, 3, 6, 12, 24, 48, 96, 192, 384, 257);
        suits(1, -1, 511, 255, 127, 63, 31, 15, 7, 3, 1);
        Edge.of("Terms", "whether all can be dressed without a told one of the suits (in how many ways).");
        for (int suit = 0; suit < 9; suit++) {
            suits(8, suit, 511);
            suits(0, suit, 1 << suit);
            int other = 1 << (suit + 1) % 9;
            suits(7, suit, 511 - other, other);
        }
        suits(0, 8, nine);
        suits(40320, 8, row(8, 511, 511));
        suits(2, 0, 7, 7);
        suits(1, 1, 3, 6);
    }

    private static void promise26() {
        Edge.of("Promise 26", "SUITS by the first 2 n bytes of the tape (barons; n 1 to 9; two bytes each, the lowest nine bits;"
                + " empty then), without a suit (0 to 8; NONE: with all): ways;");
        suits(1, -1, 0xfe01);
        suits(0, -1, 0xfe00);
        WolfKnight x = new WolfKnight();
        Due.feed(x, Due.pairs(3, 6, 0, 0));
        Due.is("the first four bytes alone", 3, x.suits(2, -1));
        Due.is("empty", 0, x.count(7));
        Due.feed(x, Due.pairs(511, 511, 511, 511, 511, 511, 511, 511, 511, 0));
        Due.is("nine", 362880, x.suits(9, -1));
        Due.is("empty", 0, x.count(7));
        Due.is("without 0", 8, Due.suits(x, 0, 511));
        Due.is("without 8", 8, Due.suits(x, 8, 511));
        Due.is("with all", 9, Due.suits(x, WolfKnight.NONE, 511));
        Edge.of("Promise 26", "-2: no such suit;");
        for (int suit : new int[] {9, -2, 32, MIN, MAX}) {
            Due.is("without " + suit, -2, Due.suits(x, suit, 511));
            Due.is("empty", 0, x.count(7));
        }
        Edge.of("Promise 26", "NONE: no such n, it has not so many (the tape stays).");
        Due.is("no bytes", -1, x.suits(1, -1));
        Due.feed(x, Due.pairs(511, 511));
        String before = Edge.stateOf(x);
        for (int n : new int[] {0, -1, 10, MIN, MAX, MIN + 1, 1 << 30}) {
            Due.is("suits(" + n + ", -1)", -1, x.suits(n, -1));
            Due.is("suits(" + n + ", 9)", -1, x.suits(n, 9));
        }
        Edge.same("suits of none", before, x);
        Due.is("as it was", 72, x.suits(2, -1));
        Due.is("it has none", -1, x.suits(9, 0));
    }
}
