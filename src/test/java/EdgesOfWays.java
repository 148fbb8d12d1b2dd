/** Edges of safe places, calm days, rumours, the middle, shortest ways and the boots: promises 18 to 23. */
final class EdgesOfWays {
    private static final int MIN = Integer.MIN_VALUE;
    private static final int MAX = Integer.MAX_VALUE;
    private static final int[] NO_DAYS = {0, -1, 241, MIN, MAX};
    private static final int[] NO_PLACES = {-1, 12, 32, MIN, MAX};

    private EdgesOfWays() {
    }

    static Runnable[] parts() {
        return new Runnable[] {
            EdgesOfWays::promise18, EdgesOfWays::promise19, EdgesOfWays::promise20, EdgesOfWays::promise21,
            EdgesOfWays::promise22, EdgesOfWays::termsOfBoots, EdgesOfWays::termsOfManyWays, EdgesOfWays::promise23
        };
    }

    private static void safest(WolfKnight x, int n, int place, int often) {
        Due.is("safest(" + n + ", 0)", place, x.safest(n, 0));
        Due.is("safest(" + n + ", 1)", often, x.safest(n, 1));
    }

    private static void promise18() {
        Edge.of("Terms", "SAFEST: the told PLACE that is hunted least in n DAYS from THE DAY on (of like ones the lowest);"
                + " how often.");
        WolfKnight x = new WolfKnight();
        x.place(2);
        x.place(5);
        x.place(11);
        Due.hunts(x, 2, "2h3.");
        Due.hunts(x, 5, ".2h2.");
        Due.hunts(x, 11, "2.2h.");
        safest(x, 1, 5, 0);
        safest(x, 2, 11, 0);
        safest(x, 3, 11, 1);
        safest(x, 4, 2, 2);
        safest(x, 5, 2, 2);
        safest(x, 6, 5, 2);
        safest(x, 7, 11, 2);
        x.days(2);
        safest(x, 1, 2, 0);
        safest(x, 3, 2, 0);
        safest(x, 4, 2, 1);
        safest(x, 5, 2, 2);
        Edge.of("Promise 18", "SAFEST in n DAYS (1 to 240), what 0 the PLACE, 1 how often;");
        Due.is("safest(240, 0)", 2, x.safest(240, 0));
        Due.is("safest(240, 1)", 96, x.safest(240, 1));
        Due.hunts(x, 5, "h");
        Due.hunts(x, 2, "h");
        Due.hunts(x, 11, "h");
        safest(x, 240, 2, 240);
        safest(x, 1, 2, 1);
        x.place(10);
        safest(x, 240, 10, 0);
        WolfKnight y = Due.row(1);
        Due.hunts(y, 0, ".h");
        Edge.pass(y, 9999);
        safest(y, 1, 0, 1);
        safest(y, 2, 0, 1);
        safest(y, 240, 0, 120);
        Edge.of("Promise 18", "-2: no PLACE is told;");
        safest(new WolfKnight(), 1, -2, -2);
        WolfKnight z = new WolfKnight();
        Due.hunts(z, 3, "h");
        safest(z, 240, -2, -2);
        Edge.of("Promise 18", "NONE: no such ones.");
        for (int n : NO_DAYS) {
            Due.is("safest(" + n + ", 0)", -1, x.safest(n, 0));
            Due.is("no place: safest(" + n + ", 1)", -1, z.safest(n, 1));
        }
        for (int what : new int[] {-1, 2, MIN, MAX}) {
            Due.is("safest(1, " + what + ")", -1, x.safest(1, what));
            Due.is("no place: safest(1, " + what + ")", -1, z.safest(1, what));
        }
    }

    private static void calm(WolfKnight x, int n, int many, int first) {
        Due.is("calm(" + n + ", 0)", many, x.calm(n, 0));
        Due.is("calm(" + n + ", 1)", first, x.calm(n, 1));
    }

    private static void promise19() {
        Edge.of("Terms", "CALM: of n DAYS from THE DAY on those that are no WOLF DAY of any told living KNIGHT: how many;"
                + " the first.");
        WolfKnight x = Due.row(2);
        x.knight(0, 0, 1);
        x.knight(8, 1, 2 + 64);
        calm(x, 2, 0, -2);
        calm(x, 3, 1, 2);
        calm(x, 6, 4, 2);
        calm(x, 7, 4, 2);
        calm(x, 9, 4, 2);
        calm(x, 10, 5, 2);
        x.first(2);
        calm(x, 1, 1, 0);
        calm(x, 240, 138, 0);
        x.first(0);
        x.days(1);
        calm(x, 7, 4, 1);
        Due.hunts(x, 1, "h");
        x.days(1);
        Due.is("i is dead", 256, x.count(5));
        calm(x, 7, 6, 0);
        x.knight(8, 0, 0);
        calm(x, 7, 6, 0);
        Edge.of("Promise 19", "CALM in n DAYS (1 to 240), what 0 how many, 1 behind how many the first is (0 on; -2: none);");
        WolfKnight y = new WolfKnight();
        calm(y, 1, 1, 0);
        calm(y, 240, 240, 0);
        y.place(0);
        y.knight(4, 0, 63);
        calm(y, 6, 0, -2);
        calm(y, 7, 1, 6);
        calm(y, 239, 34, 6);
        calm(y, 240, 34, 6);
        y.knight(4, 0, 127);
        calm(y, 240, 0, -2);
        y.knight(4, 0, 127 - 8);
        Edge.pass(y, 9999);
        calm(y, 1, 1, 0);
        calm(y, 8, 2, 0);
        y.knight(4, 0, 8);
        calm(y, 8, 6, 1);
        Edge.of("Promise 19", "NONE: no such ones.");
        for (int n : NO_DAYS) {
            Due.is("calm(" + n + ", 0)", -1, x.calm(n, 0));
        }
        for (int what : new int[] {-1, 2, MIN, MAX}) {
            Due.is("calm(1, " + what + ")", -1, x.calm(1, what));
        }
    }

    private static void rumour(WolfKnight x, int p, int days, int last, int never) {
        Due.is("rumour(" + p + ", 0)", days, x.rumour(p, 0));
        Due.is("rumour(" + p + ", 1)", last, x.rumour(p, 1));
        Due.is("rumour(" + p + ", 2)", never, x.rumour(p, 2));
    }

    private static void promise20() {
        Edge.of("Terms", "RUMOUR: from a PLACE by NEXT ones a step a DAY: how many DAYS till all that it comes to have heard;"
                + " who heard last (the lowest PLACE); how many never do.");
        WolfKnight x = Due.row(12);
        rumour(x, 0, 11, 11, 0);
        rumour(x, 11, 11, 0, 0);
        rumour(x, 5, 6, 11, 0);
        rumour(x, 6, 6, 0, 0);
        x.next(0, 11, true);
        rumour(x, 0, 6, 6, 0);
        rumour(x, 6, 6, 0, 0);
        x.next(2, 3, false);
        x.next(8, 9, false);
        rumour(x, 0, 3, 9, 6);
        rumour(x, 11, 3, 2, 6);
        rumour(x, 5, 3, 8, 6);
        Edge.of("Promise 20", "RUMOUR from a told PLACE, what 0 DAYS, 1 who heard last, 2 how many told ones never do;");
        WolfKnight y = new WolfKnight();
        y.place(11);
        rumour(y, 11, 0, 11, 0);
        y.place(0);
        rumour(y, 0, 0, 0, 1);
        rumour(y, 11, 0, 11, 1);
        WolfKnight z = Edge.star(12);
        rumour(z, 0, 1, 1, 0);
        rumour(z, 1, 2, 2, 0);
        rumour(z, 2, 2, 1, 0);
        Edge.of("Promise 20", "NONE: no such ones.");
        for (int p : NO_PLACES) {
            Due.is("rumour(" + p + ", 0)", -1, x.rumour(p, 0));
        }
        for (int what : new int[] {-1, 3, MIN, MAX}) {
            Due.is("rumour(0, " + what + ")", -1, x.rumour(0, what));
        }
        Due.is("not told", -1, y.rumour(1, 2));
    }

    private static void promise21() {
        Edge.of("Terms", "MIDDLE: the told PLACE from which the farthest it comes to is nearest, of those that come to most;"
                + " of like ones the lowest.");
        WolfKnight x = new WolfKnight();
        int[] row = {9, 4, 11, 2, 7};
        for (int i = 0; i < row.length; i++) {
            x.place(row[i]);
            if (i > 0) {
                x.next(row[i - 1], row[i], true);
            }
        }
        Due.is("9 4 11 2 7", 11, x.middle());
        x.place(0);
        Due.is("0 comes to fewest", 11, x.middle());
        x.place(1);
        x.next(0, 1, true);
        Due.is("0 and 1 come to fewer", 11, x.middle());
        x.next(2, 7, false);
        Due.is("9 4 11 2: of like ones the lowest", 4, x.middle());
        Due.is("0 to 11 in a row", 5, Due.row(12).middle());
        WolfKnight y = Due.row(12);
        y.next(0, 11, true);
        Due.is("in a ring", 0, y.middle());
        y.next(5, 6, false);
        Due.is("6 to 11, 0 to 5", 0, y.middle());
        y.next(0, 1, false);
        Due.is("6 to 11 and 0: seven; 1 to 5: five", 9, y.middle());
        Edge.of("Promise 21", "MIDDLE; -2: no PLACE is told.");
        WolfKnight z = new WolfKnight();
        Due.is("none", -2, z.middle());
        z.place(11);
        Due.is("one", 11, z.middle());
        z.place(3);
        Due.is("two alone", 3, z.middle());
    }

    private static void promise22() {
        Edge.of("Terms", "BETWEEN two PLACES: PLACES (bits) that lie on some shortest way, both ends too.");
        WolfKnight x = Due.row(12);
        Due.is("between(0, 11)", 4095, x.between(0, 11));
        Due.is("between(11, 0)", 4095, x.between(11, 0));
        Due.is("between(3, 5)", 8 + 16 + 32, x.between(3, 5));
        x.next(0, 11, true);
        Due.is("both ways round: between(0, 6)", 4095, x.between(0, 6));
        Due.is("the shorter way: between(0, 5)", 63, x.between(0, 5));
        Due.is("the shorter way: between(10, 1)", 1 << 10 | 1 << 11 | 1 | 2, x.between(10, 1));
        Due.is("between(0, 11)", 1 | 1 << 11, x.between(0, 11));
        Edge.of("Promise 22", "BETWEEN two told PLACES (bits; no way: 0);");
        Due.is("one: between(4, 4)", 16, x.between(4, 4));
        x.next(0, 11, false);
        x.next(4, 5, false);
        Due.is("no way", 0, x.between(4, 5));
        Due.is("no way", 0, x.between(11, 0));
        Due.is("one alone", 1 << 11, Due.row(12).between(11, 11));
        Edge.of("Promise 22", "NONE: no such ones.");
        for (int p : NO_PLACES) {
            Due.is("between(" + p + ", 0)", -1, x.between(p, 0));
            Due.is("between(0, " + p + ")", -1, x.between(0, p));
            Due.is("between(" + p + ", " + p + ")", -1, x.between(p, p));
        }
        WolfKnight y = Due.row(2);
        Due.is("not told", -1, y.between(0, 2));
        Due.is("not told", -1, y.between(2, 0));
        Due.is("not told", -1, y.between(2, 2));
    }

    // ---- boots ----

    private static void boots(WolfKnight x, int p, String text, int places, int ways) {
        Due.is("boots from " + p + ", " + text, places, Due.boots(x, p, text, 0));
        Due.is("ways from " + p + ", " + text, ways, Due.boots(x, p, text, 1));
    }

    private static void fault(WolfKnight x, String text, int want) {
        Due.is("boots " + text, want, Due.boots(x, 0, text, 0));
        Due.is("ways " + text, want, Due.boots(x, 0, text, 1));
    }

    private static void termsOfBoots() {
        Edge.of("Terms", "WHERE THE BOOTS were: they lay at a PLACE some DAYS ago, each DAY they stayed or came to a PLACE"
                + " NEXT to it;");
        WolfKnight x = Due.row(12);
        boots(x, 0, "?", 3, 2);
        boots(x, 5, "?", 16 + 32 + 64, 3);
        boots(x, 0, "??", 7, 5);
        boots(x, 0, "a", 1, 1);
        boots(x, 0, "b", 2, 1);
        boots(x, 0, "c", 0, 0);
        WolfKnight y = new WolfKnight();
        y.place(11);
        boots(y, 11, "?", 2048, 1);
        Edge.of("Terms", "a TEXT of at most 20 bytes tells what was seen DAY by DAY (from the first on):");
        boots(x, 0, "bcdefghijklllllllll?", 1 << 10 | 1 << 11, 2);
        boots(x, 0, "abcdefghijklllllllll", 1 << 11, 1);
        boots(x, 0, "ba", 1, 1);
        boots(x, 0, "ac", 0, 0);
        boots(x, 0, "?c", 4, 1);
        Due.is("21 bytes", -1, Due.boots(x, 0, "?".repeat(21), 0));
        x.check(0);
        Edge.of("Terms", "a letter a to l (they were seen at PLACE 0 to 11),");
        WolfKnight z = Edge.star(12);
        for (int p = 0; p < 12; p++) {
            boots(z, 0, String.valueOf((char) ('a' + p)), 1 << p, 1);
            boots(z, 0, "a?" + (char) ('a' + p), 1 << p, p == 0 ? 12 : 2);
        }
        Edge.of("Terms", "capital A to L (they were not there),");
        for (int p = 0; p < 12; p++) {
            boots(z, 0, String.valueOf((char) ('A' + p)), 4095 - (1 << p), 11);
        }
        boots(z, 3, "AD", 1, 1);
        boots(z, 3, "DA", 4094, 11);
        Edge.of("Terms", "? (nothing):");
        boots(z, 0, "?", 4095, 12);
        boots(z, 3, "?", 9, 2);
        boots(z, 3, "??", 4095, 2 + 12);
    }

    private static void termsOfManyWays() {
        Edge.of("Terms", "PLACES (bits) where they may be behind the last one; in how many ways (1000000000 at most).");
        WolfKnight x = Edge.web(12);
        boots(x, 0, "????????", 4095, 429981696);
        boots(x, 0, "?????????", 4095, 1000000000);
        boots(x, 0, "?????????a", 1, 1000000000);
        boots(x, 0, "?????????ab", 2, 1000000000);
        boots(x, 0, "?".repeat(20), 4095, 1000000000);
        boots(x, 0, "?".repeat(19) + "L", 2047, 1000000000);
        WolfKnight y = Edge.web(10);
        boots(y, 0, "?????????", 1023, 1000000000);
        boots(y, 0, "????????J", 511, 900000000);
        boots(y, 0, "?????????J", 511, 1000000000);
        WolfKnight z = Edge.web(3);
        boots(z, 0, "?".repeat(18), 7, 387420489);
        boots(z, 0, "?".repeat(19), 7, 1000000000);
        boots(z, 0, "?".repeat(19) + "a", 1, 1000000000);
        boots(z, 0, "?".repeat(17) + "C?", 7, 774840978);
        boots(z, 0, "?".repeat(18) + "C?", 7, 1000000000);
    }

    private static void promise23() {
        Edge.of("Terms", "FAULTS: 1 what can't stand there, 7 a PLACE that is not told, at it.");
        WolfKnight x = Due.row(3);
        for (int b = 0; b < 256; b++) {
            boolean letter = b >= 'a' && b <= 'l' || b >= 'A' && b <= 'L';
            if (!letter && b != '?') {
                fault(Due.row(3), "b" + (char) b, -1001);
            } else if (b != '?' && (b & 31) > 3) {
                fault(Due.row(3), "c" + (char) b, -7001);
            }
        }
        fault(x, "?x", -1001);
        fault(x, "?? ", -1002);
        fault(x, "\u0000", -1000);
        fault(x, "a\u00ff", -1001);
        fault(x, "d", -7000);
        fault(x, "D", -7000);
        fault(x, "L", -7000);
        fault(x, "?l", -7001);
        fault(x, "ldm", -7000);
        fault(x, "m?d", -1000);
        fault(x, "?".repeat(19) + "d", -7019);
        fault(x, "c?d", -7002);
        Edge.of("Promise 23", "WHERE THE BOOTS were, from a told PLACE, by the first n bytes of the tape (1 to 20; empty then),"
                + " what 0 PLACES (bits), 1 ways;");
        Due.feed(x, "?bxxx");
        Due.is("the first byte alone", 3, x.boots(0, 1, 0));
        Due.is("empty", 0, x.count(7));
        Due.feed(x, "?b?xx");
        Due.is("the first two alone", 2, x.boots(0, 2, 1));
        Due.is("empty", 0, x.count(7));
        Due.is("twenty", 7, Due.boots(x, 0, "?".repeat(20), 0));
        Edge.of("Promise 23", "a FAULT;");
        Due.is("a fault", -1000, Due.boots(x, 0, "x", 0));
        Due.is("empty", 0, x.count(7));
        Due.is("a fault", -7000, Due.boots(x, 0, "d", 1));
        Due.is("empty", 0, x.count(7));
        Edge.of("Promise 23", "NONE: no such ones, it has not so many (the tape stays).");
        Due.is("no bytes", -1, x.boots(0, 1, 0));
        Due.feed(x, "?".repeat(20));
        String before = Edge.stateOf(x);
        for (int p : NO_PLACES) {
            Due.is("boots(" + p + ", 1, 0)", -1, x.boots(p, 1, 0));
        }
        Due.is("not told", -1, x.boots(3, 1, 0));
        for (int n : new int[] {0, -1, 21, MIN, MAX}) {
            Due.is("boots(0, " + n + ", 0)", -1, x.boots(0, n, 0));
        }
        for (int what : new int[] {-1, 2, MIN, MAX}) {
            Due.is("boots(0, 1, " + what + ")", -1, x.boots(0, 1, what));
        }
        Edge.same("boots of none", before, x);
        Due.is("all that it has", 7, x.boots(0, 20, 0));
        Due.feed(x, "?".repeat(40));
        Due.is("boots(0, 21, 0)", -1, x.boots(0, 21, 0));
        Due.is("the tape stays", 40, x.count(7));
        WolfKnight y = Due.row(3);
        Due.feed(y, "?".repeat(10));
        y.check(1);
        Due.is("it has none", -1, y.boots(0, 1, 0));
    }
}
