/** Promises 18 to 23: safest places, calm days, rumours, the middle, shortest ways, the boots. */
public final class WaysTest {
    private WaysTest() {
    }

    private static void promise18Safest() {
        WolfKnight x = new WolfKnight();
        Due.is("no place is told", -2, x.safest(1, 0));
        Due.is("no place is told", -2, x.safest(240, 1));
        Due.is("no such n", -1, x.safest(0, 0));
        Due.is("no such n", -1, x.safest(241, 0));
        Due.is("no such what", -1, x.safest(1, 2));
        Due.is("no such what", -1, x.safest(1, -1));
        for (int p = 2; p < 6; p++) {
            x.place(p);
        }
        Due.is("the lowest", 2, x.safest(240, 0));
        Due.is("never", 0, x.safest(240, 1));
        Due.hunts(x, 2, "h");
        Due.hunts(x, 3, "h..");
        Due.hunts(x, 4, ".h.");
        Due.hunts(x, 5, "..2h");
        Due.is("of like ones the lowest", 4, x.safest(1, 0));
        Due.is("never", 0, x.safest(1, 1));
        Due.is("of like ones the lowest", 5, x.safest(2, 0));
        Due.is("of like ones the lowest", 3, x.safest(3, 0));
        Due.is("once", 1, x.safest(3, 1));
        Due.is("of 240 days", 80, x.safest(240, 1));
        Due.is("of 240 days", 3, x.safest(240, 0));
        Due.is("of 239 days", 80, x.safest(239, 1));
        x.days(1);
        Due.is("from the day on", 3, x.safest(2, 0));
        Due.is("from the day on", 0, x.safest(2, 1));
        x.place(1);
        Due.is("hunted or not, it is told", 1, x.safest(9, 0));
        WolfKnight y = Due.row(1);
        Due.hunts(y, 0, "h");
        Due.is("one alone", 0, y.safest(240, 0));
        Due.is("one alone", 240, y.safest(240, 1));
    }

    private static void promise19Calm() {
        WolfKnight x = Due.row(2);
        Due.is("without knights", 240, x.calm(240, 0));
        Due.is("without knights", 0, x.calm(240, 1));
        Due.is("no such n", -1, x.calm(0, 0));
        Due.is("no such n", -1, x.calm(241, 0));
        Due.is("no such what", -1, x.calm(1, 2));
        Due.is("no such what", -1, x.calm(1, -1));
        x.knight(0, 0, 1);
        x.knight(4, 1, 12);
        Due.is("weekday 0 is none", 0, x.calm(1, 0));
        Due.is("none is first", -2, x.calm(1, 1));
        Due.is("weekdays 1 4 5 6", 4, x.calm(7, 0));
        Due.is("behind one", 1, x.calm(7, 1));
        Due.is("eight days", 4, x.calm(8, 0));
        Due.is("nine days", 5, x.calm(9, 0));
        x.first(2);
        Due.is("weekdays 2 3", 0, x.calm(2, 0));
        Due.is("behind two", 2, x.calm(7, 1));
        Due.hunts(x, 1, "h");
        x.days(1);
        Due.is("e is dead", 16, x.count(5));
        Due.is("of living ones alone", 6, x.calm(7, 0));
        Due.is("from the day on", 0, x.calm(7, 1));
        x.knight(8, 0, 126);
        Due.is("never", 0, x.calm(240, 0));
        Due.is("never", -2, x.calm(240, 1));
    }

    private static void promise20Rumour() {
        WolfKnight x = Due.row(5);
        x.next(1, 3, true);
        x.place(9);
        x.place(10);
        x.next(9, 10, true);
        Due.is("days", 3, x.rumour(0, 0));
        Due.is("last", 4, x.rumour(0, 1));
        Due.is("never", 2, x.rumour(0, 2));
        Due.is("days", 2, x.rumour(2, 0));
        Due.is("the lowest of the last", 0, x.rumour(2, 1));
        Due.is("days", 2, x.rumour(1, 0));
        Due.is("last", 4, x.rumour(1, 1));
        Due.is("days", 1, x.rumour(10, 0));
        Due.is("last", 9, x.rumour(10, 1));
        Due.is("never", 5, x.rumour(10, 2));
        x.next(9, 10, false);
        Due.is("alone: days", 0, x.rumour(10, 0));
        Due.is("alone: last", 10, x.rumour(10, 1));
        Due.is("alone: never", 6, x.rumour(10, 2));
        Due.is("no such what", -1, x.rumour(0, 3));
        Due.is("no such what", -1, x.rumour(0, -1));
        Due.is("not told", -1, x.rumour(5, 0));
        Due.is("no such place", -1, x.rumour(12, 0));
        Due.is("no such place", -1, x.rumour(-1, 0));
        Due.is("a long row", 11, Due.row(12).rumour(11, 0));
        Due.is("a long row", 0, Due.row(12).rumour(11, 1));
        Due.is("all hear", 0, Due.row(12).rumour(6, 2));
    }

    private static void promise21Middle() {
        WolfKnight x = new WolfKnight();
        Due.is("no place", -2, x.middle());
        x.place(7);
        Due.is("one", 7, x.middle());
        x.place(5);
        Due.is("of like ones the lowest", 5, x.middle());
        x.place(9);
        x.next(7, 9, true);
        Due.is("of those that come to most", 7, x.middle());
        x.place(8);
        x.next(9, 8, true);
        Due.is("nearest", 9, x.middle());
        x.place(1);
        x.place(2);
        x.next(1, 2, true);
        Due.is("fewer, though nearer", 9, x.middle());
        x.next(8, 1, true);
        Due.is("7 9 8 1 2", 8, x.middle());
        Due.is("0 and 1", 0, Due.row(2).middle());
        Due.is("0 to 11", 5, Due.row(12).middle());
        Due.is("0 to 10", 5, Due.row(11).middle());
    }

    private static void promise22Between() {
        WolfKnight x = Due.row(4);
        x.place(8);
        x.place(9);
        x.next(0, 8, true);
        x.next(8, 2, true);
        Due.is("both ends and both ways", 1 | 2 | 4 | 256, x.between(0, 2));
        Due.is("the other way", 1 | 2 | 4 | 256, x.between(2, 0));
        Due.is("further", 1 | 2 | 4 | 8 | 256, x.between(0, 3));
        Due.is("next ones", 3, x.between(0, 1));
        Due.is("not by the longer one", 2 | 4 | 1 | 256, x.between(1, 8));
        Due.is("itself", 8, x.between(3, 3));
        Due.is("itself, alone", 512, x.between(9, 9));
        Due.is("no way", 0, x.between(0, 9));
        Due.is("not told", -1, x.between(0, 10));
        Due.is("not told", -1, x.between(10, 0));
        Due.is("no such place", -1, x.between(0, 12));
        Due.is("no such place", -1, x.between(-1, 0));
        x.next(0, 3, true);
        Due.is("a shorter one", 9, x.between(0, 3));
    }

    private static void promise23Boots() {
        WolfKnight x = Due.row(4);
        Due.is("they stay or come", 3, Due.boots(x, 0, "?", 0));
        Due.is("ways", 2, Due.boots(x, 0, "?", 1));
        Due.is("from the middle", 7, Due.boots(x, 1, "?", 0));
        Due.is("three days", 15, Due.boots(x, 0, "???", 0));
        // Behind one day 1 1, two 2 2 1, three 4 5 3 1.
        Due.is("ways", 13, Due.boots(x, 0, "???", 1));
        Due.is("seen there", 4, Due.boots(x, 0, "??c", 0));
        Due.is("ways", 3, Due.boots(x, 0, "??c", 1));
        Due.is("seen on the way", 2 + 4 + 1, Due.boots(x, 0, "b?", 0));
        Due.is("not there", 1, Due.boots(x, 0, "B", 0));
        Due.is("not there", 2 + 4, Due.boots(x, 0, "?A", 0));
        Due.is("ways", 3, Due.boots(x, 0, "?A", 1));
        Due.is("nowhere", 0, Due.boots(x, 0, "d?", 0));
        Due.is("nowhere", 0, Due.boots(x, 0, "d?", 1));
        Due.is("from the first on", 0, Due.boots(x, 0, "ac", 1));
        Due.is("from the first on", 1, Due.boots(x, 0, "bc", 1));
        Due.is("not told", -7000, Due.boots(x, 0, "e", 0));
        Due.is("not told", -7001, Due.boots(x, 0, "?L?", 1));
        Due.is("the tape is empty", 0, x.count(7));
        Due.is("no such sign", -1000, Due.boots(x, 0, "m", 0));
        Due.is("no such sign", -1001, Due.boots(x, 0, "aM", 0));
        Due.is("no such sign", -1002, Due.boots(x, 0, "a?.", 0));
        Due.is("no such sign", -1000, Due.boots(x, 0, "`", 0));
        Due.is("no such sign", -1000, Due.boots(x, 0, "@", 0));
        Due.is("no such sign", -1000, Due.boots(x, 0, "\u00ff", 0));
        Due.is("the first from the left", -7001, Due.boots(x, 0, "alm", 0));
        Due.is("the first from the left", -1001, Due.boots(x, 0, "aml", 0));
    }

    private static void promise23MoreBoots() {
        WolfKnight x = Due.row(12);
        for (int p = 0; p < 12; p++) {
            for (int q = 0; q < p; q++) {
                x.next(p, q, true);
            }
        }
        Due.is("12 * 12", 144, Due.boots(x, 3, "??", 1));
        Due.is("all", 4095, Due.boots(x, 3, "??", 0));
        Due.is("12 to the 8th", 429981696, Due.boots(x, 0, "????????a", 1));
        Due.is("12 to the 9th", 1000000000, Due.boots(x, 0, "?????????", 1));
        Due.is("at most", 1000000000, Due.boots(x, 0, "?????????l", 1));
        Due.is("12 to the 20th", 1000000000, Due.boots(x, 0, "?".repeat(20), 1));
        Due.is("all but one", 4095 - 2048, Due.boots(x, 0, "?".repeat(19) + "L", 0));
        Due.feed(x, "aaaaa");
        Due.is("no such n", -1, x.boots(0, 0, 0));
        Due.is("not so many", -1, x.boots(0, 21, 0));
        Due.is("no such what", -1, x.boots(0, 1, 2));
        Due.is("no such what", -1, x.boots(0, 1, -1));
        Due.is("no such place", -1, x.boots(12, 1, 0));
        Due.is("no such place", -1, x.boots(-1, 1, 0));
        Due.is("the tape stays", 20, x.count(7));
        Due.feed(x, "aaaaa");
        Due.is("no such n, though there are so many", -1, x.boots(0, 21, 0));
        Due.is("the tape stays", 40, x.count(7));
        Due.is("the first bytes", 1, x.boots(0, 1, 0));
        Due.is("the tape is empty", 0, x.count(7));
        WolfKnight y = Due.row(1);
        Due.feed(y, "a");
        Due.is("not told", -1, y.boots(1, 1, 0));
        Due.is("the tape stays", 20, y.count(7));
    }

    public static void main(String[] args) {
        promise18Safest();
        promise19Calm();
        promise20Rumour();
        promise21Middle();
        promise22Between();
        promise23Boots();
        promise23MoreBoots();
        Due.close("WaysTest");
    }
}
