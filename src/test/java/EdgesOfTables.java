import java.time.LocalDate;

/** Edges of the tables: promises 27 to 31. */
final class EdgesOfTables {
    private static final int MIN = Integer.MIN_VALUE;
    private static final int MAX = Integer.MAX_VALUE;
    private static final int NO_DATES = -10000000;
    private static final int[] NO_YEARS = {0, -1, 10000, MIN, MAX};
    private static final int[][] NO_DAYS = {{2001, 0, 1}, {2001, 13, 1}, {2001, -1, 1}, {2001, MIN, 1}, {2001, MAX, 1},
        {2001, 1, 0}, {2001, 1, -1}, {2001, 1, MIN}, {2001, 1, MAX}, {2001, 1, 32}, {2001, 2, 29}, {2000, 2, 30},
        {2004, 2, 30}, {1900, 2, 29}, {2100, 2, 29}, {9900, 2, 29}, {2001, 3, 32}, {2001, 4, 31}, {2001, 5, 32},
        {2001, 6, 31}, {2001, 7, 32}, {2001, 8, 32}, {2001, 9, 31}, {2001, 10, 32}, {2001, 11, 31}, {2001, 12, 32},
        {0, 1, 1}, {0, 12, 31}, {-1, 1, 1}, {-4, 2, 29}, {10000, 1, 1}, {MIN, MIN, MIN}, {MAX, MAX, MAX}};
    private static final int[][] DAYS = {{1, 1, 1}, {1, 12, 31}, {4, 2, 29}, {100, 2, 28}, {100, 3, 1}, {400, 2, 29},
        {1582, 10, 4}, {1582, 10, 10}, {1582, 10, 15}, {1752, 9, 5}, {1900, 2, 28}, {1900, 3, 1}, {2000, 2, 29},
        {2001, 1, 31}, {2001, 2, 28}, {2001, 3, 31}, {2001, 4, 30}, {2001, 5, 31}, {2001, 6, 30}, {2001, 7, 31},
        {2001, 8, 31}, {2001, 9, 30}, {2001, 10, 31}, {2001, 11, 30}, {2001, 12, 31}, {2024, 2, 29}, {2024, 12, 31},
        {9996, 2, 29}, {9999, 1, 1}, {9999, 12, 31}};

    private EdgesOfTables() {
    }

    static Runnable[] parts() {
        return new Runnable[] {
            EdgesOfTables::termsOfTables, EdgesOfTables::promise27, EdgesOfTables::promise28,
            EdgesOfTables::promise29, EdgesOfTables::promise30, EdgesOfTables::promise31
        };
    }

    private static void termsOfTables() {
        Edge.of("Terms", "TABLES (years 1 to 9999, by the new reckoning throughout):");
        WolfKnight x = new WolfKnight();
        Due.is("4 October 1582", 1, x.weekday(1582, 10, 4));
        Due.is("5 October 1582", 2, x.weekday(1582, 10, 5));
        Due.is("from 4 to 15 October 1582", 11, x.daysBetween(1582, 10, 4, 1582, 10, 15));
        Due.is("31 days of October 1582", 1031, x.date(1582, 303));
        Due.is("the first Friday of October 1582", 1, x.feast(1582, 10, 1, 5));
        Due.is("29 February 1500", -1, x.weekday(1500, 2, 29));
        Due.is("Easter 1500", easterBySteps(1500), x.easter(1500));
        Due.is("1 January 1", 1, x.weekday(1, 1, 1));
        Due.is("31 December 9999", 5, x.weekday(9999, 12, 31));
        Due.is("year 0", -1, x.weekday(0, 12, 31));
        Due.is("year 10000", -1, x.weekday(10000, 1, 1));
        Edge.of("Terms", "the weekday of a date (0 Sunday, 1 Monday, 6 Saturday);");
        for (int day = 1; day <= 15; day++) {
            Due.is(day + " November 2026", (day - 1) % 7, x.weekday(2026, 11, day));
        }
        Edge.of("Terms", "days from one date to another one;");
        Due.is("to itself", 0, x.daysBetween(2026, 11, 19, 2026, 11, 19));
        Due.is("one on", 1, x.daysBetween(2026, 11, 19, 2026, 11, 20));
        Due.is("one back", -1, x.daysBetween(2026, 11, 20, 2026, 11, 19));
        Due.is("over the year's end", 1, x.daysBetween(2026, 12, 31, 2027, 1, 1));
        Edge.of("Terms", "the day of the month of the n-th (1 to 5) weekday of a month;");
        for (int n = 1; n <= 4; n++) {
            Due.is(n + ". Sunday", 7 * n - 6, x.feast(2026, 11, n, 0));
            Due.is(n + ". Saturday", 7 * n, x.feast(2026, 11, n, 6));
        }
        Due.is("5. Sunday", 29, x.feast(2026, 11, 5, 0));
        Edge.of("Terms", "Easter Sunday: month and day;");
        int[][] known = {{1598, 322}, {1818, 322}, {2285, 322}, {1666, 425}, {1943, 425}, {2038, 425}, {1954, 418},
            {1981, 419}, {2000, 423}, {2008, 323}, {2024, 331}, {2025, 420}, {2026, 405}, {2049, 418}, {2076, 419}};
        for (int[] easter : known) {
            Due.is("Easter " + easter[0], easter[1], x.easter(easter[0]));
        }
        Edge.of("Terms", "the date so many days behind 1 January of a year.");
        Due.is("0", 101, x.date(2026, 0));
        Due.is("31", 201, x.date(2026, 31));
        Due.is("59", 301, x.date(2026, 59));
        Due.is("59 of a leap year", 229, x.date(2024, 59));
        Due.is("60 of a leap year", 301, x.date(2024, 60));
    }

    private static void promise27() {
        Edge.of("Promise 27", "The weekday of a date;");
        WolfKnight x = new WolfKnight();
        for (int[] day : DAYS) {
            int due = LocalDate.of(day[0], day[1], day[2]).getDayOfWeek().getValue() % 7;
            Due.is(day[2] + " " + day[1] + " " + day[0], due, x.weekday(day[0], day[1], day[2]));
        }
        Edge.of("Promise 27", "NONE: no such one.");
        for (int[] day : NO_DAYS) {
            Due.is(day[2] + " " + day[1] + " " + day[0], -1, x.weekday(day[0], day[1], day[2]));
        }
    }

    private static void promise28() {
        Edge.of("Promise 28", "Days from one date to another one (below 0: back);");
        WolfKnight x = new WolfKnight();
        for (int i = 1; i < DAYS.length; i++) {
            int[] from = DAYS[i - 1];
            int[] to = DAYS[i];
            long due = LocalDate.of(to[0], to[1], to[2]).toEpochDay() - LocalDate.of(from[0], from[1], from[2]).toEpochDay();
            Due.is("on to " + i, due, x.daysBetween(from[0], from[1], from[2], to[0], to[1], to[2]));
            Due.is("back from " + i, -due, x.daysBetween(to[0], to[1], to[2], from[0], from[1], from[2]));
        }
        Due.is("all", 3652058, x.daysBetween(1, 1, 1, 9999, 12, 31));
        Due.is("all, back", -3652058, x.daysBetween(9999, 12, 31, 1, 1, 1));
        Edge.of("Promise 28", "-10000000: no such ones.");
        for (int[] day : NO_DAYS) {
            Due.is("from none", NO_DATES, x.daysBetween(day[0], day[1], day[2], 2000, 1, 1));
            Due.is("to none", NO_DATES, x.daysBetween(2000, 1, 1, day[0], day[1], day[2]));
            Due.is("from none to itself", NO_DATES, x.daysBetween(day[0], day[1], day[2], day[0], day[1], day[2]));
        }
    }

    private static void promise29() {
        Edge.of("Promise 29", "The day of the month of the n-th (1 to 5) weekday (0 to 6) in a month;");
        WolfKnight x = new WolfKnight();
        int[][] firsts = {{2026, 11, 1}, {2026, 11, 0}, {2026, 11, 6}, {2024, 2, 4}, {1, 1, 1}, {9999, 12, 3}, {2026, 5, 5}};
        for (int[] first : firsts) {
            LocalDate date = LocalDate.of(first[0], first[1], 1);
            while (date.getDayOfWeek().getValue() % 7 != first[2]) {
                date = date.plusDays(1);
            }
            for (int n = 1; n <= 5; n++) {
                int due = date.getMonthValue() == first[1] ? date.getDayOfMonth() : -2;
                Due.is(n + ". weekday " + first[2] + " of " + first[1] + " " + first[0], due,
                        x.feast(first[0], first[1], n, first[2]));
                date = n < 5 ? date.plusDays(7) : date;
            }
        }
        Edge.of("Promise 29", "-2: there is no fifth;");
        Due.is("29 days: the fifth Thursday", 29, x.feast(2024, 2, 5, 4));
        Due.is("29 days: no fifth Friday", -2, x.feast(2024, 2, 5, 5));
        Due.is("28 days: no fifth Sunday", -2, x.feast(2026, 2, 5, 0));
        Due.is("30 days: the fifth Monday", 30, x.feast(2026, 11, 5, 1));
        Due.is("30 days: no fifth Tuesday", -2, x.feast(2026, 11, 5, 2));
        Due.is("31 days: the fifth Saturday", 31, x.feast(2026, 10, 5, 6));
        Due.is("31 days: no fifth Sunday", -2, x.feast(2026, 10, 5, 0));
        Edge.of("Promise 29", "NONE: no such ones.");
        for (int year : NO_YEARS) {
            Due.is("of the year " + year, -1, x.feast(year, 1, 1, 0));
        }
        for (int month : new int[] {0, 13, -1, MIN, MAX}) {
            Due.is("of the month " + month, -1, x.feast(2026, month, 1, 0));
        }
        for (int n : new int[] {0, 6, -1, MIN, MAX}) {
            Due.is("the " + n + "-th", -1, x.feast(2026, 11, n, 0));
        }
        for (int weekday : new int[] {-1, 7, MIN, MAX}) {
            Due.is("weekday " + weekday, -1, x.feast(2026, 11, 1, weekday));
            Due.is("the fifth of weekday " + weekday, -1, x.feast(2026, 2, 5, weekday));
        }
    }

    private static void promise30() {
        Edge.of("Promise 30", "Easter: 100 times the month, and the day;");
        WolfKnight x = new WolfKnight();
        for (int year = 1; year <= 9999; year++) {
            if (year % 250 == 1) {
                x = new WolfKnight();
            }
            int easter = x.easter(year);
            Due.is("Easter " + year, easterBySteps(year), easter);
            Due.is("a Sunday, " + year, 0, x.weekday(year, easter / 100, easter % 100));
        }
        Edge.of("Promise 30", "NONE: no such year.");
        x = new WolfKnight();
        for (int year : NO_YEARS) {
            Due.is("Easter " + year, -1, x.easter(year));
        }
    }

    /** The Sunday behind the full moon on 21 March or behind it, by golden number and epact. */
    private static int easterBySteps(int year) {
        int golden = year % 19;
        int century = year / 100;
        int epact = Math.floorMod(century - century / 4 - (8 * century + 13) / 25 + 19 * golden + 15, 30);
        int moon = epact;
        if (epact == 29 || epact == 28 && golden > 10) {
            moon--;
        }
        LocalDate fullMoon = LocalDate.of(year, 3, 21).plusDays(moon);
        LocalDate sunday = fullMoon.plusDays(7 - fullMoon.getDayOfWeek().getValue() % 7);
        return 100 * sunday.getMonthValue() + sunday.getDayOfMonth();
    }

    private static void promise31() {
        Edge.of("Promise 31", "The date n days (0 to 365, 364 of a common year) behind 1 January: 100 times the month, and the day;");
        for (int year : new int[] {1, 4, 100, 400, 1900, 2000, 2023, 2024, 9999}) {
            WolfKnight x = new WolfKnight();
            LocalDate first = LocalDate.of(year, 1, 1);
            for (int n = 0; n < first.lengthOfYear(); n++) {
                LocalDate date = first.plusDays(n);
                Due.is("date(" + year + ", " + n + ")", 100 * date.getMonthValue() + date.getDayOfMonth(), x.date(year, n));
            }
            Due.is("date(" + year + "), too late", -1, x.date(year, first.lengthOfYear()));
        }
        Edge.of("Promise 31", "NONE: no such ones.");
        WolfKnight x = new WolfKnight();
        for (int year : NO_YEARS) {
            Due.is("date(" + year + ", 0)", -1, x.date(year, 0));
        }
        for (int n : new int[] {-1, 366, MIN, MAX}) {
            Due.is("date(2024, " + n + ")", -1, x.date(2024, n));
            Due.is("date(2023, " + n + ")", -1, x.date(2023, n));
        }
        Due.is("date(2024, 365)", 1231, x.date(2024, 365));
        Due.is("date(2023, 365)", -1, x.date(2023, 365));
        Due.is("date(1900, 365)", -1, x.date(1900, 365));
        Due.is("date(2000, 365)", 1231, x.date(2000, 365));
    }
}
