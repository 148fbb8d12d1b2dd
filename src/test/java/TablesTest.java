/** Promises 27 to 31: weekdays, days between dates, feasts, Easter, dates of a year. */
public final class TablesTest {
    private static final int NO_DATES = -10000000;
    private static final int MIN = Integer.MIN_VALUE;
    private static final int MAX = Integer.MAX_VALUE;

    private TablesTest() {
    }

    private static void promise27Weekday() {
        WolfKnight x = new WolfKnight();
        Due.is("1 January 1", 1, x.weekday(1, 1, 1));
        Due.is("31 December 9999", 5, x.weekday(9999, 12, 31));
        Due.is("15 October 1582", 5, x.weekday(1582, 10, 15));
        Due.is("4 October 1582, by the new reckoning", 1, x.weekday(1582, 10, 4));
        Due.is("18 November 2026", 3, x.weekday(2026, 11, 18));
        Due.is("29 February 2000", 2, x.weekday(2000, 2, 29));
        Due.is("a Sunday", 0, x.weekday(2026, 11, 22));
        Due.is("a Saturday", 6, x.weekday(2026, 11, 21));
        int[][] none = {{0, 1, 1}, {10000, 1, 1}, {-1, 1, 1}, {2000, 0, 1}, {2000, 13, 1}, {2000, 1, 0}, {2000, 1, 32},
            {2000, 3, 32}, {2000, 5, 32}, {2000, 7, 32}, {2000, 8, 32}, {2000, 10, 32}, {2000, 12, 32},
            {2001, 2, 29}, {1900, 2, 29}, {2100, 2, 29}, {2000, 2, 30}, {2004, 4, 31}, {2004, 6, 31}, {2004, 9, 31},
            {2004, 11, 31}, {MIN, MIN, MIN}, {MAX, MAX, MAX}, {2000, MAX, 1}, {2000, 1, MIN}};
        for (int[] date : none) {
            Due.is("no such date", -1, x.weekday(date[0], date[1], date[2]));
            Due.is("no such date", NO_DATES, x.daysBetween(date[0], date[1], date[2], 2000, 1, 1));
            Due.is("no such date", NO_DATES, x.daysBetween(2000, 1, 1, date[0], date[1], date[2]));
        }
        int[][] some = {{4, 2, 29}, {2000, 2, 29}, {1600, 2, 29}, {2004, 2, 29}, {2001, 1, 31}, {2001, 3, 31},
            {2001, 4, 30}, {2001, 5, 31}, {2001, 6, 30}, {2001, 7, 31}, {2001, 8, 31}, {2001, 9, 30}, {2001, 10, 31},
            {2001, 11, 30}, {2001, 12, 31}, {2001, 2, 28}};
        for (int[] date : some) {
            int weekday = java.time.LocalDate.of(date[0], date[1], date[2]).getDayOfWeek().getValue() % 7;
            Due.is("weekday", weekday, x.weekday(date[0], date[1], date[2]));
        }
    }

    private static void promise28DaysBetween() {
        WolfKnight x = new WolfKnight();
        Due.is("the same", 0, x.daysBetween(2026, 11, 18, 2026, 11, 18));
        Due.is("one on", 1, x.daysBetween(2023, 12, 31, 2024, 1, 1));
        Due.is("one back", -1, x.daysBetween(2024, 1, 1, 2023, 12, 31));
        Due.is("a leap year", 366, x.daysBetween(2024, 1, 1, 2025, 1, 1));
        Due.is("a common year", 365, x.daysBetween(1900, 1, 1, 1901, 1, 1));
        Due.is("over February", 2, x.daysBetween(2024, 2, 28, 2024, 3, 1));
        Due.is("over February", 1, x.daysBetween(2023, 2, 28, 2023, 3, 1));
        Due.is("400 years", 146097, x.daysBetween(1600, 2, 29, 2000, 2, 29));
        Due.is("all", 3652058, x.daysBetween(1, 1, 1, 9999, 12, 31));
        Due.is("all back", -3652058, x.daysBetween(9999, 12, 31, 1, 1, 1));
        Due.is("no such ones", NO_DATES, x.daysBetween(0, 1, 1, 0, 1, 1));
    }

    private static void promise29Feast() {
        WolfKnight x = new WolfKnight();
        // 1 November 2026 is a Sunday.
        Due.is("first Sunday", 1, x.feast(2026, 11, 1, 0));
        Due.is("fifth Sunday", 29, x.feast(2026, 11, 5, 0));
        Due.is("fifth Monday", 30, x.feast(2026, 11, 5, 1));
        Due.is("no fifth Tuesday", -2, x.feast(2026, 11, 5, 2));
        Due.is("fourth Tuesday", 24, x.feast(2026, 11, 4, 2));
        Due.is("first Saturday", 7, x.feast(2026, 11, 1, 6));
        Due.is("no fifth Saturday", -2, x.feast(2026, 11, 5, 6));
        // 1 February 2024 is a Thursday, 1 February 2026 a Sunday.
        Due.is("fifth Thursday", 29, x.feast(2024, 2, 5, 4));
        Due.is("no fifth", -2, x.feast(2024, 2, 5, 5));
        Due.is("no fifth", -2, x.feast(2026, 2, 5, 0));
        Due.is("fourth", 22, x.feast(2026, 2, 4, 0));
        int[][] none = {{0, 1, 1, 0}, {10000, 1, 1, 0}, {2000, 0, 1, 0}, {2000, 13, 1, 0}, {2000, 1, 0, 0},
            {2000, 1, 6, 0}, {2000, 1, 1, -1}, {2000, 1, 1, 7}, {MIN, MIN, MIN, MIN}, {MAX, MAX, MAX, MAX},
            {2000, 1, 5, 7}, {2000, 1, MAX, 0}};
        for (int[] feast : none) {
            Due.is("no such feast", -1, x.feast(feast[0], feast[1], feast[2], feast[3]));
        }
    }

    private static void promise30Easter() {
        WolfKnight x = new WolfKnight();
        int[][] known = {{1583, 410}, {1598, 322}, {1693, 322}, {1700, 411}, {1761, 322}, {1818, 322}, {1886, 425},
            {1900, 415}, {1943, 425}, {1954, 418}, {1961, 402}, {1981, 419}, {2000, 423}, {2008, 323}, {2024, 331},
            {2025, 420}, {2026, 405}, {2038, 425}, {2049, 418}, {2076, 419}, {2285, 322}, {2353, 322}, {2437, 322}};
        for (int[] easter : known) {
            Due.is("Easter " + easter[0], easter[1], x.easter(easter[0]));
        }
        Due.is("no such year", -1, x.easter(0));
        Due.is("no such year", -1, x.easter(10000));
        Due.is("no such year", -1, x.easter(-1));
        Due.is("no such year", -1, x.easter(MIN));
        for (int year = 1; year <= 9999; year++) {
            if (year % 200 == 1) {
                x = new WolfKnight();
            }
            int easter = x.easter(year);
            Due.yes("in its bounds, " + year, easter >= 322 && easter <= 425);
            Due.is("a Sunday, " + year, 0, x.weekday(year, easter / 100, easter % 100));
        }
    }

    private static void promise31Date() {
        WolfKnight x = new WolfKnight();
        Due.is("1 January", 101, x.date(2023, 0));
        Due.is("31 January", 131, x.date(2023, 30));
        Due.is("1 February", 201, x.date(2023, 31));
        Due.is("28 February", 228, x.date(2023, 58));
        Due.is("1 March", 301, x.date(2023, 59));
        Due.is("29 February", 229, x.date(2024, 59));
        Due.is("1 March", 301, x.date(2024, 60));
        Due.is("31 December", 1231, x.date(2023, 364));
        Due.is("30 December", 1230, x.date(2024, 364));
        Due.is("31 December", 1231, x.date(2024, 365));
        Due.is("1 December", 1201, x.date(2023, 334));
        Due.is("30 November", 1130, x.date(2023, 333));
        Due.is("a common year", -1, x.date(2023, 365));
        Due.is("a common year", -1, x.date(1900, 365));
        Due.is("a leap year", 1231, x.date(2000, 365));
        Due.is("too many", -1, x.date(2024, 366));
        Due.is("too few", -1, x.date(2024, -1));
        Due.is("no such year", -1, x.date(0, 0));
        Due.is("no such year", -1, x.date(10000, 0));
        Due.is("no such year", -1, x.date(MIN, MIN));
        Due.is("the first year", 1231, x.date(1, 364));
        Due.is("the last year", 1231, x.date(9999, 364));
    }

    public static void main(String[] args) {
        promise27Weekday();
        promise28DaysBetween();
        promise29Feast();
        promise30Easter();
        promise31Date();
        Due.close("TablesTest");
    }
}
