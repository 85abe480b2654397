import java.time.LocalDate;
import java.time.temporal.ChronoUnit;

/** Promises 15 to 19: feasts. */
public final class FeastsTest {
    private static final LocalDate DAY_ZERO = LocalDate.of(0, 3, 1);
    private static final int LAST = 1500000;
    private static final int BAD = AlmanacHouse.BAD, NONE = AlmanacHouse.NONE;
    private static final int OUTSIDE = AlmanacHouse.OUTSIDE, FULL = AlmanacHouse.FULL;

    public static void main(String[] args) {
        feastRefuses();
        feastsAreFull();
        fixedDays();
        weekdays();
        movableDays();
        movableFeasts();
        behindOthers();
        ranksMove();
        movedBeyondTheRange();
        feastsOnADay();
        dayRefusals();
        Due.end("FeastsTest");
    }

    private static int dayOf(int year, int month, int day) {
        return (int) ChronoUnit.DAYS.between(DAY_ZERO, LocalDate.of(year, month, day));
    }

    private static void bad(House x, int rule, int a, int b, int c, int rank) {
        Due.is("feast(" + rule + ", " + a + ", " + b + ", " + c + ", " + rank + ")", x.feast(rule, a, b, c, rank), BAD);
    }

    private static void feastRefuses() {
        House x = new House();
        bad(x, -1, 1, 1, 1, 1);
        bad(x, 4, 1, 1, 1, 1);
        bad(x, Integer.MIN_VALUE, 1, 1, 1, 1);
        bad(x, 0, 1, 1, 1, -1);
        bad(x, 0, 1, 1, 1, 10);
        for (int a : new int[] {0, 54, -1, Integer.MAX_VALUE}) {
            bad(x, 0, a, 1, 0, 1);
        }
        for (int b : new int[] {0, 201, -1, Integer.MAX_VALUE}) {
            bad(x, 0, 1, b, 0, 1);
        }
        for (int c : new int[] {-1, 7, 8, Integer.MIN_VALUE}) {
            bad(x, 0, 1, 1, c, 1);
        }
        for (int a : new int[] {0, 13, -1}) {
            bad(x, 1, a, 1, 1, 1);
        }
        for (int b : new int[] {-1, 7}) {
            bad(x, 1, 1, b, 1, 1);
        }
        for (int c : new int[] {-2, 0, 6}) {
            bad(x, 1, 1, 1, c, 1);
        }
        bad(x, 2, -61, 0, 0, 1);
        bad(x, 2, 101, 0, 0, 1);
        bad(x, 2, 0, -1, 0, 1);
        bad(x, 2, 0, 2, 0, 1);
        bad(x, 3, 0, 0, 0, 1);
        bad(x, 3, -1, 0, 0, 1);
        Due.is("count(2)", x.count(2), 0);
        Due.is("count(5)", x.count(5), 0);
        Due.is("feast(0, 53, 200, 6, 9)", x.feast(0, 53, 200, 6, 9), 0);
        Due.is("feast(1, 12, 6, -1, 0)", x.feast(1, 12, 6, -1, 0), 1);
        Due.is("feast(1, 1, 0, 5, 0)", x.feast(1, 1, 0, 5, 0), 2);
        Due.is("feast(2, -60, 0, 99, 0)", x.feast(2, -60, 0, 99, 0), 3);
        Due.is("feast(2, 100, 1, -99, 0)", x.feast(2, 100, 1, -99, 0), 4);
        Due.is("feast(3, 4, 40, 99, 0)", x.feast(3, 4, 40, 99, 0), 5);
        Due.is("feast(3, 5, -40, -9, 0)", x.feast(3, 5, -40, -9, 0), 6);
        bad(x, 3, 7, 0, 0, 1);
        bad(x, 3, 0, 41, 0, 1);
        bad(x, 3, 0, -41, 0, 1);
    }

    private static void feastsAreFull() {
        House x = new House();
        for (int i = 0; i < 60; i++) {
            Due.is("feast " + i, x.feast(0, 5, 1, 0, 3), i);
        }
        Due.is("feast 60", x.feast(0, 5, 1, 0, 3), FULL);
        Due.is("feast 60 behind 59", x.feast(3, 59, 0, 0, 3), FULL);
        bad(x, 3, 60, 0, 0, 3);
        bad(x, 0, 5, 1, 0, 10);
        Due.is("count(2)", x.count(2), 60);
        for (int i = 0; i < 60; i++) {
            Due.is("feastDay(" + i + ", 2000)", x.feastDay(i, 2000), dayOf(2000, 5, 1) + i);
            Due.is("moved(" + i + ", 2000)", x.moved(i, 2000), i);
        }
    }

    private static void fixedDays() {
        House x = new House();
        int christmas = x.feast(0, 12, 25, 0, 0);
        int leapDay = x.feast(0, 2, 29, 0, 0);
        int julian = x.feast(0, 12, 25, 1, 0);
        int moonYear = x.feast(0, 1, 1, 3, 0);
        int never = x.feast(0, 53, 8, 5, 0);
        int week53 = x.feast(0, 53, 1, 5, 0);
        Due.is("25 12 2024", x.feastDay(christmas, 2024), dayOf(2024, 12, 25));
        Due.is("29 2 2024", x.feastDay(leapDay, 2024), dayOf(2024, 2, 29));
        Due.is("29 2 2023", x.feastDay(leapDay, 2023), NONE);
        Due.is("29 2 0", x.feastDay(leapDay, 0), NONE);
        Due.is("moved(29 2 2023)", x.moved(leapDay, 2023), NONE);
        Due.is("25 12 2022 of 1", x.feastDay(julian, 2023), dayOf(2023, 1, 7));
        Due.is("a MONTH of 8-day weeks", x.feastDay(never, 2023), NONE);
        int weeks = 0;
        int twice = 0;
        for (int year = 0; year <= 5000; year++) {
            int n = x.feastDay(moonYear, year);
            if (year < 4107 && n != NONE) {
                Due.is("YEAR of " + n, x.fromDay(0, n, 0), year);
                Due.is("MONTH of " + n, x.fromDay(3, n, 1), 1);
                Due.is("day of " + n, x.fromDay(3, n, 2), 1);
                int before = x.addYears(3, n, -1);
                Due.yes("the first one of " + year, before == OUTSIDE || x.fromDay(0, before, 0) != year);
                twice += x.fromDay(0, x.addYears(3, n, 1), 0) == year ? 1 : 0;
            } else {
                Due.is("the moon YEAR of " + year, n, NONE);
            }
            weeks += x.feastDay(week53, year) == NONE ? 0 : 1;
        }
        Due.yes("some YEARS have two moon YEARS", twice > 100);
        Due.yes("some YEARS have a week 53", weeks > 600 && weeks < 900);
        Due.is("25 12 4106", x.feastDay(christmas, 4106), dayOf(4106, 12, 25));
        Due.is("25 12 4107", x.feastDay(christmas, 4107), NONE);
        Due.is("25 12 5000", x.feastDay(christmas, 5000), NONE);
    }

    private static void weekdays() {
        House x = new House();
        int[] which = {1, 2, 3, 4, 5, -1};
        for (int c : which) {
            x.feast(1, 2, 3, c, 0);
        }
        for (int year = 0; year <= 4106; year++) {
            int first = dayOf(year, 2, 1);
            int end = dayOf(year, 3, 1);
            int[] due = {NONE, NONE, NONE, NONE, NONE, NONE};
            int found = 0;
            for (int n = first; n < end; n++) {
                if (Math.floorMod(n, 7) == 3) {
                    due[found] = n < 0 ? NONE : n;
                    due[5] = n < 0 ? NONE : n;
                    found++;
                }
            }
            for (int i = 0; i < which.length; i++) {
                Due.is("WEEKDAY 3 number " + which[i] + " of 2 " + year, x.feastDay(i, year), due[i]);
            }
        }
    }

    private static void movableDays() {
        House x = new House();
        int[][] known = {{1818, 3, 22}, {1943, 4, 25}, {1954, 4, 18}, {1981, 4, 19}, {2000, 4, 23}, {2008, 3, 23},
            {2011, 4, 24}, {2024, 3, 31}, {2025, 4, 20}, {2038, 4, 25}, {2285, 3, 22}};
        for (int[] k : known) {
            Due.is("movable(0, " + k[0] + ")", x.movable(0, k[0]), dayOf(k[0], k[1], k[2]));
        }
        int[][] knownOld = {{2021, 5, 2}, {2023, 4, 16}, {2024, 5, 5}, {2025, 4, 20}, {1983, 5, 8}};
        for (int[] k : knownOld) {
            Due.is("movable(1, " + k[0] + ")", x.movable(1, k[0]), dayOf(k[0], k[1], k[2]));
        }
        for (int year = 0; year < 4107; year++) {
            Due.is("movable(0, " + year + ")", x.movable(0, year), meeusDay(year));
            Due.is("movable(1, " + year + ")", x.movable(1, year), meeusOldDay(x, year));
        }
        for (int year = 0; year <= 5000; year++) {
            int n = x.movable(0, year);
            if (year >= 4107) {
                Due.is("movable(0, " + year + ")", n, OUTSIDE);
                Due.is("movable(1, " + year + ")", x.movable(1, year), OUTSIDE);
            } else {
                Due.yes("movable(0, " + year + ")", n >= dayOf(year, 3, 22) && n <= dayOf(year, 4, 25));
                int old = x.movable(1, year);
                Due.yes("movable(1, " + year + ")", old >= x.toDay(1, year, 3, 22) && old <= x.toDay(1, year, 4, 25));
            }
        }
        Due.is("movable(2, -1)", x.movable(2, -1), BAD);
        Due.is("movable(-1, 5)", x.movable(-1, 5), BAD);
        Due.is("movable(0, -1)", x.movable(0, -1), NONE);
        Due.is("movable(1, 5001)", x.movable(1, 5001), NONE);
        Due.is("movable(1, MIN)", x.movable(1, Integer.MIN_VALUE), NONE);
    }

    /** Easter by another formula than the document's, for CALENDAR 0. */
    private static int meeusDay(int year) {
        int a = year % 19;
        int b = year / 100;
        int c = year % 100;
        int g = (b - (b + 8) / 25 + 1) / 3;
        int h = (19 * a + b - b / 4 - g + 15) % 30;
        int l = (32 + 2 * (b % 4) + 2 * (c / 4) - h - c % 4) % 7;
        int m = (a + 11 * h + 22 * l) / 451;
        int sum = h + l - 7 * m + 114;
        return dayOf(year, sum / 31, sum % 31 + 1);
    }

    /** The same for CALENDAR 1. */
    private static int meeusOldDay(House x, int year) {
        int d = (19 * (year % 19) + 15) % 30;
        int e = (2 * (year % 4) + 4 * (year % 7) - d + 34) % 7;
        int sum = d + e + 114;
        return x.toDay(1, year, sum / 31, sum % 31 + 1);
    }

    private static void movableFeasts() {
        House x = new House();
        x.feast(2, 0, 0, 0, 0);
        x.feast(2, 49, 0, 0, 0);
        x.feast(2, -46, 0, 0, 0);
        x.feast(2, 39, 1, 0, 0);
        Due.is("31 3 2024", x.feastDay(0, 2024), dayOf(2024, 3, 31));
        Due.is("49 behind it", x.feastDay(1, 2024), dayOf(2024, 5, 19));
        Due.is("46 ahead of it", x.feastDay(2, 2024), dayOf(2024, 2, 14));
        Due.is("46 ahead of it in 0", x.feastDay(2, 0), NONE);
        Due.is("39 behind the old one", x.feastDay(3, 2024), dayOf(2024, 5, 5) + 39);
        Due.is("4107", x.feastDay(2, 4107), NONE);
    }

    private static void behindOthers() {
        House x = new House();
        x.feast(0, 12, 25, 0, 5);
        x.feast(0, 12, 25, 0, 9);
        x.feast(3, 0, 12, 0, 9);
        x.feast(3, 2, -40, 0, 0);
        x.feast(0, 2, 29, 0, 0);
        x.feast(3, 4, 1, 0, 0);
        Due.is("25 12, moved", x.feastDay(0, 2000), dayOf(2000, 12, 26));
        Due.is("12 behind it, as it is ahead of all moving", x.feastDay(2, 2000), dayOf(2001, 1, 6));
        Due.is("40 ahead of that", x.feastDay(3, 2000), dayOf(2000, 11, 27));
        Due.is("behind a day that is there", x.feastDay(5, 2000), dayOf(2000, 3, 1));
        Due.is("behind none", x.feastDay(5, 2001), NONE);
        // 29 2 0 is none, so what is behind it is none, too, though it would be day 0
        Due.is("behind one beyond the range", x.feastDay(5, 0), NONE);
        House chain = new House();
        chain.feast(0, 6, 1, 0, 1);
        for (int i = 1; i < 60; i++) {
            Due.is("chain " + i, chain.feast(3, i - 1, i % 2 == 0 ? 40 : 39, 0, 1), i);
        }
        Due.is("the end of a chain", chain.feastDay(59, 2000), dayOf(2000, 6, 1) + 29 * 40 + 30 * 39);
        Due.is("it is not of the YEAR in which it lies", chain.feastOn(chain.feastDay(59, 2000), 0), NONE);
    }

    private static void ranksMove() {
        House x = new House();
        int[] ranks = {0, 1, 2, 2, 0, 9};
        for (int rank : ranks) {
            x.feast(0, 7, 10, 0, rank);
        }
        x.feast(0, 7, 11, 0, 1);
        int day = dayOf(1999, 7, 10);
        int[] moved = {0, 3, 1, 2, 0, 0, 3};
        for (int i = 0; i < moved.length; i++) {
            Due.is("moved(" + i + ", 1999)", x.moved(i, 1999), moved[i]);
            Due.is("feastDay(" + i + ", 1999)", x.feastDay(i, 1999), day + (i == 6 ? 1 : 0) + moved[i]);
        }
        Due.is("undo()", x.undo(), 6);
        Due.is("undo()", x.undo(), 5);
        Due.is("moved(1, 1999) without the greatest", x.moved(1, 1999), 2);
        Due.is("moved(2, 1999) without the greatest", x.moved(2, 1999), 0);
        Due.is("moved(5, 1999)", x.moved(5, 1999), BAD);
    }

    private static void movedBeyondTheRange() {
        House x = new House();
        x.feast(0, 1, 10, 0, 3);
        x.feast(0, 1, 10, 0, 4);
        x.feast(0, 1, 10, 0, 0);
        Due.is("feastDay(1, 4107)", x.feastDay(1, 4107), LAST);
        Due.is("feastDay(0, 4107)", x.feastDay(0, 4107), NONE);
        Due.is("moved(0, 4107)", x.moved(0, 4107), NONE);
        Due.is("feastDay(2, 4107)", x.feastDay(2, 4107), LAST);
        Due.is("feastOn(LAST, 0)", x.feastOn(LAST, 0), 1);
        Due.is("feastOn(LAST, 1)", x.feastOn(LAST, 1), 2);
        Due.is("feastOn(LAST, 2)", x.feastOn(LAST, 2), NONE);
    }

    private static void feastsOnADay() {
        House x = new House();
        x.feast(0, 7, 10, 0, 0);
        x.feast(0, 7, 10, 0, 4);
        x.feast(0, 7, 10, 0, 0);
        x.feast(0, 7, 9, 0, 6);
        x.feast(0, 12, 31, 0, 9);
        x.feast(0, 12, 31, 0, 8);
        int n = dayOf(1, 7, 10);
        Due.is("feastOn k 0", x.feastOn(n, 0), 1);
        Due.is("feastOn k 1", x.feastOn(n, 1), 0);
        Due.is("feastOn k 2", x.feastOn(n, 2), 2);
        Due.is("feastOn k 3", x.feastOn(n, 3), NONE);
        Due.is("feastOn k -1", x.feastOn(n, -1), NONE);
        Due.is("feastOn k MIN", x.feastOn(n, Integer.MIN_VALUE), NONE);
        Due.is("feastOn the day before", x.feastOn(n - 1, 0), 3);
        Due.is("feastOn(-1, 0)", x.feastOn(-1, 0), OUTSIDE);
        Due.is("feastOn(LAST + 1, 0)", x.feastOn(LAST + 1, 0), OUTSIDE);
        // moved from 31 12 into the next YEAR, it is not one of that YEAR
        Due.is("feastDay(5, 1)", x.feastDay(5, 1), dayOf(2, 1, 1));
        Due.is("feastOn(1 1 2, 0)", x.feastOn(dayOf(2, 1, 1), 0), NONE);
        Due.is("feastOn(31 12 1, 0)", x.feastOn(dayOf(1, 12, 31), 0), 4);
    }

    private static void dayRefusals() {
        House x = new House();
        Due.is("feastDay(0, -1)", x.feastDay(0, -1), BAD);
        x.feast(0, 7, 10, 0, 0);
        Due.is("feastDay(-1, -1)", x.feastDay(-1, -1), BAD);
        Due.is("feastDay(1, 5)", x.feastDay(1, 5), BAD);
        Due.is("feastDay(0, -1)", x.feastDay(0, -1), NONE);
        Due.is("feastDay(0, 5001)", x.feastDay(0, 5001), NONE);
        Due.is("moved(-1, -1)", x.moved(-1, -1), BAD);
        Due.is("moved(1, 5)", x.moved(1, 5), BAD);
        Due.is("moved(0, -1)", x.moved(0, -1), NONE);
        Due.is("moved(0, 5001)", x.moved(0, 5001), NONE);
        Due.is("moved(0, MAX)", x.moved(0, Integer.MAX_VALUE), NONE);
    }
}
