import java.time.LocalDate;
import java.time.temporal.ChronoUnit;

/** Promises 7 to 10: adding, difference, birthday. */
public final class AddingTest {
    private static final LocalDate DAY_ZERO = LocalDate.of(0, 3, 1);
    private static final int BAD = AlmanacHouse.BAD, NONE = AlmanacHouse.NONE, OUTSIDE = AlmanacHouse.OUTSIDE;

    public static void main(String[] args) {
        House x = new House();
        agreesWithIsoDates(x);
        monthsAndYears(x);
        addingRefuses(x);
        differences(x);
        differenceRefuses(x);
        birthdays(x);
        birthdayRefuses(x);
        town();
        Due.end("AddingTest");
    }

    private static int dayOf(int year, int month, int day) {
        return (int) ChronoUnit.DAYS.between(DAY_ZERO, LocalDate.of(year, month, day));
    }

    private static int inRange(LocalDate date) {
        long n = ChronoUnit.DAYS.between(DAY_ZERO, date);
        return n < 0 || n > 1500000 ? OUTSIDE : (int) n;
    }

    private static void agreesWithIsoDates(House x) {
        for (int n = 0; n <= 1500000; n += 1009) {
            LocalDate date = DAY_ZERO.plusDays(n);
            for (int k : new int[] {-1, 1, 11, 12, 13, -25, 600, -48000}) {
                Due.is("addMonths(0, " + n + ", " + k + ")", x.addMonths(0, n, k), inRange(date.plusMonths(k)));
            }
            for (int k : new int[] {-1, 1, 4, 100, -2000, 3000}) {
                Due.is("addYears(0, " + n + ", " + k + ")", x.addYears(0, n, k), inRange(date.plusYears(k)));
            }
        }
    }

    private static void monthsAndYears(House x) {
        int jan31 = dayOf(2024, 1, 31);
        Due.is("31 1 2024 and a MONTH", x.addMonths(0, jan31, 1), dayOf(2024, 2, 29));
        Due.is("31 1 2024 and 13 MONTHS", x.addMonths(0, jan31, 13), dayOf(2025, 2, 28));
        Due.is("31 1 2024 and no MONTH", x.addMonths(0, jan31, 0), jan31);
        Due.is("29 2 2024 and a YEAR", x.addYears(0, dayOf(2024, 2, 29), 1), dayOf(2025, 2, 28));
        Due.is("29 2 2024 and no YEAR", x.addYears(0, dayOf(2024, 2, 29), 0), dayOf(2024, 2, 29));
        // MONTH 13 of a LONG YEAR of 4 becomes 12 of the next one
        int last = x.toDay(4, 3, 13, 29);
        Due.is("29 13 3 of 4 and a YEAR", x.addYears(4, last, 1), x.toDay(4, 4, 12, 29));
        Due.is("29 13 3 of 4 and a MONTH", x.addMonths(4, last, 1), x.toDay(4, 4, 1, 29));
        Due.is("1 1 4 of 4 less a MONTH", x.addMonths(4, x.toDay(4, 4, 1, 1), -1), x.toDay(4, 3, 13, 1));
        Due.is("1 1 1 of 4 and 235 MONTHS", x.addMonths(4, 0, 235), x.toDay(4, 20, 1, 1));
        // week 53 becomes 52
        int week53 = x.toDay(5, 1, 1, 1) - 7;
        Due.is("the week ahead of YEAR 1", x.fromDay(5, week53, 1), 53);
        Due.is("week 53 and a YEAR", x.addYears(5, week53, 1), x.toDay(5, 1, 52, 1));
        Due.is("6 13 3 of 2 and a YEAR", x.addYears(2, x.toDay(2, 3, 13, 6), 1), x.toDay(2, 4, 13, 5));
        Due.is("30 12 3 of 2 and a MONTH", x.addMonths(2, x.toDay(2, 3, 12, 30), 1), x.toDay(2, 3, 13, 6));
        Due.is("30 12 2 of 3 and a YEAR", x.addYears(3, x.toDay(3, 2, 12, 30), 1), x.toDay(3, 3, 12, 29));
        Due.is("1 1 0 of 6 and 19 MONTHS", x.addMonths(6, 0, 19), 380);
        Due.is("29 2 1900 of 1 and 100 YEARS", x.addYears(1, x.toDay(1, 1900, 2, 29), 100), x.toDay(1, 2000, 2, 29));
    }

    private static void addingRefuses(House x) {
        Due.is("addMonths(8, -1, 0)", x.addMonths(8, -1, 0), BAD);
        Due.is("addMonths(-1, 0, 0)", x.addMonths(-1, 0, 0), BAD);
        Due.is("addMonths(0, -1, 60001)", x.addMonths(0, -1, 60001), BAD);
        Due.is("addMonths(0, -1, -60001)", x.addMonths(0, -1, -60001), BAD);
        Due.is("addMonths(7, -1, 60000)", x.addMonths(7, -1, 60000), OUTSIDE);
        Due.is("addMonths(7, 1500001, -60000)", x.addMonths(7, 1500001, -60000), OUTSIDE);
        Due.is("addMonths(7, 5, 1)", x.addMonths(7, 5, 1), NONE);
        Due.is("addMonths(0, 0, 60000)", x.addMonths(0, 0, 60000), OUTSIDE);
        Due.is("addMonths(0, 1500000, -60000)", x.addMonths(0, 1500000, -60000), OUTSIDE);
        Due.is("addMonths(2, 0, -1)", x.addMonths(2, 0, -1), OUTSIDE);
        Due.is("addMonths(0, 0, -2)", x.addMonths(0, 0, -2), OUTSIDE);
        for (int c = 2; c <= 4; c++) {
            Due.is("addMonths(" + c + ", 30, -1)", x.addMonths(c, 30, -1), 0);
            Due.is("addMonths(" + c + ", 30, -2)", x.addMonths(c, 30, -2), OUTSIDE);
        }
        Due.is("addMonths(5, 0, 60000)", x.addMonths(5, 0, 60000), 420000);
        Due.is("addMonths(0, 0, MAX)", x.addMonths(0, 0, Integer.MAX_VALUE), BAD);
        Due.is("addMonths(0, 0, MIN)", x.addMonths(0, 0, Integer.MIN_VALUE), BAD);
        Due.is("addYears(8, -1, 0)", x.addYears(8, -1, 0), BAD);
        Due.is("addYears(0, -1, 5001)", x.addYears(0, -1, 5001), BAD);
        Due.is("addYears(0, -1, -5001)", x.addYears(0, -1, -5001), BAD);
        Due.is("addYears(7, -1, 5000)", x.addYears(7, -1, 5000), OUTSIDE);
        Due.is("addYears(7, 1500001, 0)", x.addYears(7, 1500001, 0), OUTSIDE);
        Due.is("addYears(7, 5, 1)", x.addYears(7, 5, 1), NONE);
        Due.is("addYears(0, 0, 5000)", x.addYears(0, 0, 5000), OUTSIDE);
        Due.is("addYears(0, 1500000, -5000)", x.addYears(0, 1500000, -5000), OUTSIDE);
        Due.is("addYears(3, 0, -1)", x.addYears(3, 0, -1), OUTSIDE);
        Due.is("addYears(0, 0, 4107)", x.addYears(0, 0, 4107), OUTSIDE);
        Due.is("addYears(0, 0, 4106)", x.addYears(0, 0, 4106), dayOf(4106, 3, 1));
    }

    private static void difference(House x, int c, int a, int b, int years, int months, int days) {
        String call = "difference(" + c + ", " + a + ", " + b + ", ";
        Due.is(call + "0)", x.difference(c, a, b, 0), years);
        Due.is(call + "1)", x.difference(c, a, b, 1), months);
        Due.is(call + "2)", x.difference(c, a, b, 2), days);
    }

    private static void differences(House x) {
        difference(x, 0, 7, 7, 0, 0, 0);
        difference(x, 0, 7, 8, 0, 0, 1);
        difference(x, 0, dayOf(2000, 2, 29), dayOf(2001, 2, 28), 1, 0, 0);
        difference(x, 0, dayOf(2000, 2, 29), dayOf(2001, 2, 27), 0, 11, 29);
        difference(x, 0, dayOf(2001, 1, 31), dayOf(2001, 3, 30), 0, 1, 30);
        difference(x, 0, dayOf(2001, 1, 31), dayOf(2001, 2, 28), 0, 1, 0);
        // the MONTHS are added to what comes of the YEARS: 28 2 2001, not 29 2 2000
        difference(x, 0, dayOf(2000, 2, 29), dayOf(2001, 3, 28), 1, 1, 0);
        difference(x, 0, 0, 1500000, 4106, 10, 9);
        difference(x, 0, dayOf(4106, 12, 31), 1500000, 0, 0, 10);
        difference(x, 5, 0, 7 * 40 + 3, 0, 40, 3);
        difference(x, 6, 5, 5 + 360 * 9 + 20 * 17 + 19, 9, 17, 19);
        // 29 13 3 of 4 comes to 29 12 4, so no YEAR is whole on 28 12 4
        int last = x.toDay(4, 3, 13, 29);
        difference(x, 4, last, x.toDay(4, 4, 12, 29), 1, 0, 0);
        difference(x, 4, last, x.toDay(4, 4, 12, 28), 0, 11, 29);
    }

    private static void differenceRefuses(House x) {
        Due.is("difference(8, 0, -1, 9)", x.difference(8, 0, -1, 9), BAD);
        Due.is("difference(0, 0, 5, -1)", x.difference(0, 0, 5, -1), BAD);
        Due.is("difference(0, 0, 5, 3)", x.difference(0, 0, 5, 3), BAD);
        Due.is("difference(0, -1, -2, 0)", x.difference(0, -1, -2, 0), BAD);
        Due.is("difference(7, -2, 1, 0)", x.difference(7, -2, 1, 0), OUTSIDE);
        Due.is("difference(7, 5, 1500001, 0)", x.difference(7, 5, 1500001, 0), OUTSIDE);
        Due.is("difference(7, 5, 1500000, 0)", x.difference(7, 5, 1500000, 0), NONE);
        Due.is("difference(0, MIN, MAX, 0)", x.difference(0, Integer.MIN_VALUE, Integer.MAX_VALUE, 0), OUTSIDE);
    }

    private static void birthdays(House x) {
        int leapDay = dayOf(2000, 2, 29);
        Due.is("29 2 in 2001", x.birthday(0, leapDay, 2001), dayOf(2001, 2, 28));
        Due.is("29 2 in 2000", x.birthday(0, leapDay, 2000), leapDay);
        Due.is("29 2 in 1996", x.birthday(0, leapDay, 1996), dayOf(1996, 2, 29));
        Due.is("29 2 in 0", x.birthday(0, leapDay, 0), NONE);
        Due.is("1 3 in 0", x.birthday(0, dayOf(2000, 3, 1), 0), 0);
        Due.is("10 1 in 4107", x.birthday(0, dayOf(2000, 1, 10), 4107), 1500000);
        Due.is("11 1 in 4107", x.birthday(0, dayOf(2000, 1, 11), 4107), NONE);
        Due.is("1 1 in 5000", x.birthday(0, 306, 5000), NONE);
        // a YEAR of 0 may have two anniversaries by 3: the first one counts
        for (int year = 1; year < 4107; year++) {
            int n = x.birthday(3, 5, year);
            if (n != NONE) {
                Due.is("YEAR of " + n, x.fromDay(0, n, 0), year);
                Due.is("MONTH of " + n, x.fromDay(3, n, 1), 1);
                Due.is("day of " + n, x.fromDay(3, n, 2), 6);
                int before = x.addYears(3, n, -1);
                Due.yes("none ahead of " + n, before == OUTSIDE || x.fromDay(0, before, 0) < year);
            }
        }
        Due.is("birthday(6, 0, 0)", x.birthday(6, 0, 0), 0);
        // 360 days behind day 306 + 360 * k the next one may fall into the same YEAR
        Due.is("birthday(6, 306, 1)", x.birthday(6, 306, 1), 306);
    }

    private static void birthdayRefuses(House x) {
        Due.is("birthday(7, -1, -1)", x.birthday(7, -1, -1), BAD);
        Due.is("birthday(-1, -1, -1)", x.birthday(-1, -1, -1), BAD);
        Due.is("birthday(8, -1, -1)", x.birthday(8, -1, -1), BAD);
        Due.is("birthday(0, -1, -1)", x.birthday(0, -1, -1), NONE);
        Due.is("birthday(0, -1, 5001)", x.birthday(0, -1, 5001), NONE);
        Due.is("birthday(0, -1, 5000)", x.birthday(0, -1, 5000), OUTSIDE);
        Due.is("birthday(0, 1500001, 0)", x.birthday(0, 1500001, 0), OUTSIDE);
    }

    private static void town() {
        House x = new House();
        int[] lengths = {30, 10, 20, 5, 40, 1, 7, 8, 9, 10, 3, 50};
        int first = 2000;
        for (int length : lengths) {
            x.row(first, length);
            first += length;
        }
        Due.is("30 1 1 and a MONTH", x.addMonths(7, 2029, 1), 2039);
        Due.is("30 1 1 and 11 MONTHS", x.addMonths(7, 2029, 11), 2143 + 29);
        Due.is("30 1 1 and 12 MONTHS", x.addMonths(7, 2029, 12), OUTSIDE);
        Due.is("30 1 1 less a MONTH", x.addMonths(7, 2029, -1), OUTSIDE);
        Due.is("30 1 1 and a YEAR", x.addYears(7, 2029, 1), 2142);
        Due.is("20 3 1 and a YEAR", x.addYears(7, 2059, 1), 2143 + 19);
        Due.is("30 1 1 and 2 YEARS", x.addYears(7, 2029, 2), OUTSIDE);
        Due.is("1 1 2 less a YEAR", x.addYears(7, 2140, -1), 2000);
        // b may lie behind the last ROW
        difference(x, 7, 2000, 1500000, 1, 1, 1500000 - 2143);
        difference(x, 7, 2000, 2139, 0, 9, 9);
        difference(x, 7, 2000, 2140, 1, 0, 0);
        difference(x, 7, 2192, 1500000, 0, 0, 1500000 - 2192);
        Due.is("difference(7, 1999, 2000, 0)", x.difference(7, 1999, 2000, 0), NONE);
        Due.is("difference(7, 2193, 2194, 0)", x.difference(7, 2193, 2194, 0), NONE);
    }
}
