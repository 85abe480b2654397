import java.time.LocalDate;
import java.time.temporal.ChronoUnit;
import java.util.Calendar;
import java.util.Date;
import java.util.GregorianCalendar;
import java.util.TimeZone;

/** Promises 2 to 6: dates and lengths. */
public final class CalendarsTest {
    private static final int LAST = 1500000;
    private static final LocalDate DAY_ZERO = LocalDate.of(0, 3, 1);
    private static final int BAD = AlmanacHouse.BAD, NONE = AlmanacHouse.NONE, OUTSIDE = AlmanacHouse.OUTSIDE;

    public static void main(String[] args) {
        House x = new House();
        agreesWithIsoDates(x);
        weeksByThursdays(x);
        agreesWithJulianDates(x);
        agreesWithTheListedMonths(x);
        datesComeBack(x);
        firstDays(x);
        leapDays(x);
        countedMoonYears(x);
        roundNamesAndCounts(x);
        refusals(x);
        townDates();
        Due.end("CalendarsTest");
    }

    private static int dayOf(LocalDate date) {
        return (int) ChronoUnit.DAYS.between(DAY_ZERO, date);
    }

    private static void agreesWithIsoDates(House x) {
        for (int n = 0; n <= LAST; n += 37) {
            LocalDate date = DAY_ZERO.plusDays(n);
            Due.is("fromDay(0, " + n + ", 0)", x.fromDay(0, n, 0), date.getYear());
            Due.is("fromDay(0, " + n + ", 1)", x.fromDay(0, n, 1), date.getMonthValue());
            Due.is("fromDay(0, " + n + ", 2)", x.fromDay(0, n, 2), date.getDayOfMonth());
        }
        for (int year = 0; year <= 5000; year++) {
            LocalDate first = LocalDate.of(year, 1, 1);
            Due.is("yearLength(0, " + year + ")", x.yearLength(0, year), first.lengthOfYear());
            Due.is("monthLength(0, " + year + ", 2)", x.monthLength(0, year, 2), first.plusMonths(1).lengthOfMonth());
        }
        Due.is("toDay(0, 2024, 2, 29)", x.toDay(0, 2024, 2, 29), dayOf(LocalDate.of(2024, 2, 29)));
    }

    /** The document's WEEKDAY is the number's rest, so the true weeks of java.time are others. */
    private static void weeksByThursdays(House x) {
        int thursdays = 9;
        int year = 0;
        for (int monday = 0; monday + 6 <= LAST; monday += 7) {
            int of = DAY_ZERO.plusDays(monday + 3).getYear();
            if (of != year) {
                Due.is("months(5, " + year + ")", x.months(5, year), thursdays);
                Due.is("yearLength(5, " + year + ")", x.yearLength(5, year), 7 * thursdays);
                thursdays = 0;
                year = of;
            }
            thursdays++;
            int n = monday + thursdays % 7;
            Due.is("fromDay(5, " + n + ", 0)", x.fromDay(5, n, 0), year);
            Due.is("fromDay(5, " + n + ", 1)", x.fromDay(5, n, 1), thursdays);
            Due.is("fromDay(5, " + n + ", 2)", x.fromDay(5, n, 2), n % 7 + 1);
        }
        Due.is("monthLength(5, 5000, 52)", x.monthLength(5, 5000, 52), 7);
    }

    private static void agreesWithJulianDates(House x) {
        GregorianCalendar julian = new GregorianCalendar(TimeZone.getTimeZone("UTC"));
        julian.setGregorianChange(new Date(Long.MAX_VALUE));
        for (int n = 400; n <= LAST; n += 997) {
            julian.setTimeInMillis(DAY_ZERO.plusDays(n).toEpochDay() * 86400000L);
            Due.is("fromDay(1, " + n + ", 0)", x.fromDay(1, n, 0), julian.get(Calendar.YEAR));
            Due.is("fromDay(1, " + n + ", 1)", x.fromDay(1, n, 1), julian.get(Calendar.MONTH) + 1);
            Due.is("fromDay(1, " + n + ", 2)", x.fromDay(1, n, 2), julian.get(Calendar.DAY_OF_MONTH));
        }
    }

    /** Every MONTH of every YEAR, against the lists of SlowHouse. */
    private static void agreesWithTheListedMonths(House x) {
        SlowHouse slow = new SlowHouse();
        for (int c = 0; c <= 6; c++) {
            for (int year = 0; year <= 5000; year++) {
                int months = slow.months(c, year);
                Due.is("months(" + c + ", " + year + ")", x.months(c, year), months);
                for (int m = 1; m <= months; m++) {
                    int length = slow.monthLength(c, year, m);
                    if (x.monthLength(c, year, m) != length || x.toDay(c, year, m, 1) != slow.toDay(c, year, m, 1)) {
                        Due.yes("MONTH " + m + " of YEAR " + year + " of " + c, false);
                    }
                }
            }
        }
    }

    private static void datesComeBack(House x) {
        for (int c = 0; c <= 6; c++) {
            for (int n = 0; n <= LAST; n += n < 2000 || n > LAST - 2000 ? 1 : 331) {
                int year = x.fromDay(c, n, 0);
                int month = x.fromDay(c, n, 1);
                int day = x.fromDay(c, n, 2);
                Due.is("toDay of day " + n + " in " + c, x.toDay(c, year, month, day), n);
                Due.yes("months of day " + n + " in " + c, month <= x.months(c, year));
                Due.yes("days of day " + n + " in " + c, day <= x.monthLength(c, year, month));
            }
            int first = c == 2 || c == 3 || c == 4 ? 1 : 0;
            for (int year = first; year <= 5000; year += 7) {
                int sum = 0;
                for (int m = 1; m <= x.months(c, year); m++) {
                    sum += x.monthLength(c, year, m);
                }
                Due.is("yearLength(" + c + ", " + year + ")", x.yearLength(c, year), sum);
            }
        }
    }

    private static void firstDays(House x) {
        Due.is("toDay(0, 0, 3, 1)", x.toDay(0, 0, 3, 1), 0);
        Due.is("toDay(1, 0, 3, 3)", x.toDay(1, 0, 3, 3), 0);
        Due.is("toDay(2, 1, 1, 1)", x.toDay(2, 1, 1, 1), 0);
        Due.is("toDay(3, 1, 1, 1)", x.toDay(3, 1, 1, 1), 0);
        Due.is("toDay(4, 1, 1, 1)", x.toDay(4, 1, 1, 1), 0);
        Due.is("toDay(5, 0, 10, 1)", x.toDay(5, 0, 10, 1), 0);
        Due.is("toDay(6, 0, 1, 1)", x.toDay(6, 0, 1, 1), 0);
        Due.is("toDay(0, 4107, 1, 10)", x.toDay(0, 4107, 1, 10), LAST);
        Due.is("toDay(0, 4107, 1, 11)", x.toDay(0, 4107, 1, 11), OUTSIDE);
        Due.is("toDay(5, 0, 9, 7)", x.toDay(5, 0, 9, 7), OUTSIDE);
        Due.is("fromDay(0, 8, 3)", x.fromDay(0, 8, 3), 1);
        Due.is("fromDay(5, 8, 3)", x.fromDay(5, 8, 3), 1);
        Due.is("fromDay(5, 8, 4)", x.fromDay(5, 8, 4), 0);
    }

    private static void leapDays(House x) {
        int[] years = {0, 4, 100, 400, 1900, 2000, 2100, 5000};
        int[] gregorian = {29, 29, 28, 29, 28, 29, 28, 28};
        for (int i = 0; i < years.length; i++) {
            Due.is("monthLength(0, " + years[i] + ", 2)", x.monthLength(0, years[i], 2), gregorian[i]);
            Due.is("monthLength(1, " + years[i] + ", 2)", x.monthLength(1, years[i], 2), 29);
        }
        Due.is("monthLength(1, 1901, 2)", x.monthLength(1, 1901, 2), 28);
        for (int year = 1; year <= 40; year++) {
            Due.is("monthLength(2, " + year + ", 13)", x.monthLength(2, year, 13), year % 4 == 3 ? 6 : 5);
            Due.is("monthLength(2, " + year + ", 12)", x.monthLength(2, year, 12), 30);
        }
        boolean[] more = new boolean[30];
        for (int y : new int[] {2, 5, 7, 10, 13, 16, 18, 21, 24, 26, 29}) {
            more[y] = true;
        }
        for (int year = 1; year <= 5000; year++) {
            Due.is("monthLength(3, " + year + ", 12)", x.monthLength(3, year, 12), more[year % 30] ? 30 : 29);
            Due.is("yearLength(3, " + year + ")", x.yearLength(3, year), more[year % 30] ? 355 : 354);
        }
        Due.is("monthLength(3, 1, 1)", x.monthLength(3, 1, 1), 30);
        Due.is("monthLength(3, 1, 2)", x.monthLength(3, 1, 2), 29);
        Due.is("toDay(3, 31, 1, 1)", x.toDay(3, 31, 1, 1), 10631);
    }

    private static void countedMoonYears(House x) {
        for (int year = 1; year <= 4107; year++) {
            int start = x.toDay(4, year, 1, 1);
            int weekday = start % 7;
            Due.yes("YEAR " + year + " of 4 begins on no Wednesday, Friday, Sunday",
                weekday != 2 && weekday != 4 && weekday != 6);
            int days = x.yearLength(4, year);
            boolean isLong = (7 * year + 1) % 19 < 7;
            Due.is("months(4, " + year + ")", x.months(4, year), isLong ? 13 : 12);
            Due.yes("days of YEAR " + year + " of 4", isLong ? days >= 383 && days <= 385 : days >= 353 && days <= 355);
            Due.is("monthLength(4, " + year + ", 2)", x.monthLength(4, year, 2), days % 10 == 5 ? 30 : 29);
            Due.is("monthLength(4, " + year + ", 3)", x.monthLength(4, year, 3), days % 10 == 3 ? 29 : 30);
            Due.is("monthLength(4, " + year + ", 6)", x.monthLength(4, year, 6), isLong ? 30 : 29);
            Due.is("monthLength(4, " + year + ", 7)", x.monthLength(4, year, 7), isLong ? 29 : 30);
        }
        // 19 YEARS have 235 MONTHS
        int months = 0;
        for (int year = 1; year <= 19; year++) {
            months += x.months(4, year);
        }
        Due.is("MONTHS of 19 YEARS of 4", months, 235);
        Due.is("yearLength(4, 5000)", x.yearLength(4, 5000), 383);
    }

    private static void roundNamesAndCounts(House x) {
        for (int n = 0; n < 300; n++) {
            Due.is("fromDay(6, " + n + ", 3)", x.fromDay(6, n, 3), (n + 7) % 20);
            Due.is("fromDay(6, " + n + ", 4)", x.fromDay(6, n, 4), (n + 3) % 13 + 1);
        }
        Due.is("fromDay(6, 359, 1)", x.fromDay(6, 359, 1), 18);
        Due.is("fromDay(6, 359, 2)", x.fromDay(6, 359, 2), 20);
        Due.is("fromDay(6, 360, 0)", x.fromDay(6, 360, 0), 1);
    }

    private static void refusals(House x) {
        for (int c : new int[] {-1, 8, Integer.MAX_VALUE, Integer.MIN_VALUE}) {
            Due.is("toDay calendar " + c, x.toDay(c, 9999, 0, 0), BAD);
            Due.is("fromDay calendar " + c, x.fromDay(c, -1, 0), BAD);
            Due.is("monthLength calendar " + c, x.monthLength(c, 9999, 0), BAD);
            Due.is("yearLength calendar " + c, x.yearLength(c, 9999), BAD);
            Due.is("months calendar " + c, x.months(c, 9999), BAD);
        }
        Due.is("fromDay(0, -1, -1)", x.fromDay(0, -1, -1), BAD);
        Due.is("fromDay(0, -1, 5)", x.fromDay(0, -1, 5), BAD);
        Due.is("fromDay(7, -1, 0)", x.fromDay(7, -1, 0), OUTSIDE);
        Due.is("fromDay(7, 5, 4)", x.fromDay(7, 5, 4), NONE);
        for (int c = 0; c <= 7; c++) {
            for (int year : new int[] {-1, 5001, Integer.MAX_VALUE, Integer.MIN_VALUE}) {
                Due.is("toDay(" + c + ", " + year + ", 1, 1)", x.toDay(c, year, 1, 1), NONE);
                Due.is("monthLength(" + c + ", " + year + ", 1)", x.monthLength(c, year, 1), NONE);
                Due.is("yearLength(" + c + ", " + year + ")", x.yearLength(c, year), NONE);
                Due.is("months(" + c + ", " + year + ")", x.months(c, year), NONE);
            }
            for (int month : new int[] {0, -1, 54, Integer.MAX_VALUE, Integer.MIN_VALUE}) {
                Due.is("toDay(" + c + ", 9, " + month + ", 1)", x.toDay(c, 9, month, 1), NONE);
                Due.is("monthLength(" + c + ", 9, " + month + ")", x.monthLength(c, 9, month), NONE);
            }
            for (int day : new int[] {0, -1, 32, Integer.MAX_VALUE, Integer.MIN_VALUE}) {
                Due.is("toDay(" + c + ", 9, 1, " + day + ")", x.toDay(c, 9, 1, day), NONE);
            }
        }
        for (int c = 2; c <= 4; c++) {
            Due.is("months(" + c + ", 0)", x.months(c, 0), NONE);
            Due.is("months(" + c + ", 1)", x.months(c, 1), c == 2 ? 13 : 12);
        }
        Due.is("toDay(0, 5000, 2, 30)", x.toDay(0, 5000, 2, 30), NONE);
        Due.is("toDay(0, 5000, 2, 28)", x.toDay(0, 5000, 2, 28), OUTSIDE);
    }

    private static void townDates() {
        House x = new House();
        for (int i = 0; i < 13; i++) {
            x.row(103 + 5 * i, 5);
        }
        Due.is("fromDay(7, 103, 3)", x.fromDay(7, 103, 3), 0);
        Due.is("fromDay(7, 112, 3)", x.fromDay(7, 112, 3), 9);
        Due.is("fromDay(7, 113, 3)", x.fromDay(7, 113, 3), 0);
        Due.is("fromDay(7, 152, 0)", x.fromDay(7, 152, 0), 1);
        Due.is("fromDay(7, 152, 1)", x.fromDay(7, 152, 1), 10);
        Due.is("fromDay(7, 152, 2)", x.fromDay(7, 152, 2), 5);
        Due.is("fromDay(7, 153, 0)", x.fromDay(7, 153, 0), 2);
        Due.is("fromDay(7, 153, 1)", x.fromDay(7, 153, 1), 1);
        Due.is("fromDay(7, 153, 4)", x.fromDay(7, 153, 4), 0);
        Due.is("fromDay(7, 102, 0)", x.fromDay(7, 102, 0), NONE);
        Due.is("fromDay(7, 168, 0)", x.fromDay(7, 168, 0), NONE);
        Due.is("toDay(7, 2, 3, 5)", x.toDay(7, 2, 3, 5), 167);
        Due.is("toDay(7, 2, 3, 6)", x.toDay(7, 2, 3, 6), NONE);
        Due.is("toDay(7, 2, 4, 1)", x.toDay(7, 2, 4, 1), NONE);
        Due.is("toDay(7, 0, 1, 1)", x.toDay(7, 0, 1, 1), NONE);
        Due.is("months(7, 1)", x.months(7, 1), 10);
        Due.is("months(7, 2)", x.months(7, 2), 3);
        Due.is("months(7, 3)", x.months(7, 3), NONE);
        Due.is("yearLength(7, 1)", x.yearLength(7, 1), 50);
        Due.is("yearLength(7, 2)", x.yearLength(7, 2), 15);
        Due.is("yearLength(7, 3)", x.yearLength(7, 3), NONE);
        Due.is("monthLength(7, 2, 3)", x.monthLength(7, 2, 3), 5);
        Due.is("monthLength(7, 2, 4)", x.monthLength(7, 2, 4), NONE);
    }
}
