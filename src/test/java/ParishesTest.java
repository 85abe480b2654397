/** Promises 24 to 29: parishes and their days off. */
public final class ParishesTest {
    private static final int LAST = 1500000;
    private static final int BAD = AlmanacHouse.BAD, NONE = AlmanacHouse.NONE;
    private static final int OUTSIDE = AlmanacHouse.OUTSIDE, FULL = AlmanacHouse.FULL;

    public static void main(String[] args) {
        parishesAreCounted();
        rulesAreCounted();
        weeklyDays();
        feastDays();
        bridges();
        bridgesBetweenFeasts();
        yearsAround();
        feastsFarBehindFreeNothing();
        workedDays();
        nextDays();
        rows();
        refusals();
        Due.end("ParishesTest");
    }

    private static void parishesAreCounted() {
        House x = new House();
        for (int weekly : new int[] {-1, 128, Integer.MAX_VALUE, Integer.MIN_VALUE}) {
            Due.is("parish(" + weekly + ", true)", x.parish(weekly, true), BAD);
        }
        for (int i = 0; i < 8; i++) {
            Due.is("parish " + i, x.parish(i * 18, i % 2 == 0), i);
        }
        Due.is("parish 8", x.parish(0, false), FULL);
        Due.is("a bad parish 8", x.parish(128, false), BAD);
        Due.is("count(3)", x.count(3), 8);
        Due.is("count(5)", x.count(5), 8);
        Due.is("undo()", x.undo(), 7);
        Due.is("parish 7 again", x.parish(127, false), 7);
        Due.is("isOff(7, 5)", x.isOff(7, 5), 1);
    }

    private static void rulesAreCounted() {
        House x = new House();
        Due.is("rule(0, 0, 0, 0)", x.rule(0, 0, 0, 0), BAD);
        x.parish(0, false);
        Due.is("rule(0, 0, 0, 0) without FEASTS", x.rule(0, 0, 0, 0), BAD);
        x.feast(0, 1, 1, 0, 1);
        x.parish(0, false);
        Due.is("rule(2, 0, 0, 0)", x.rule(2, 0, 0, 0), BAD);
        Due.is("rule(-1, 0, 0, 0)", x.rule(-1, 0, 0, 0), BAD);
        Due.is("rule(0, 1, 0, 0)", x.rule(0, 1, 0, 0), BAD);
        Due.is("rule(0, -1, 0, 0)", x.rule(0, -1, 0, 0), BAD);
        for (int bad : new int[] {-1, 11, Integer.MAX_VALUE, Integer.MIN_VALUE}) {
            Due.is("rule(0, 0, " + bad + ", 0)", x.rule(0, 0, bad, 0), BAD);
            Due.is("rule(0, 0, 0, " + bad + ")", x.rule(0, 0, 0, bad), BAD);
        }
        Due.is("count(4)", x.count(4), 0);
        for (int i = 0; i < 24; i++) {
            Due.is("rule of 0", x.rule(0, 0, 10, 0), i + 1);
            Due.is("rule of 1", x.rule(1, 0, 0, 10), i + 1);
        }
        Due.is("rule 48", x.rule(0, 0, 0, 0), FULL);
        Due.is("a bad rule 48", x.rule(0, 0, 11, 0), BAD);
        Due.is("count(4)", x.count(4), 48);
        Due.is("undo()", x.undo(), 50);
        Due.is("rule 47 again", x.rule(0, 0, 0, 0), 25);
    }

    private static void weeklyDays() {
        House x = new House();
        x.parish(0b1010001, false);
        int[] off = {1, 0, 0, 0, 1, 0, 1};
        for (int n = 0; n < 30; n++) {
            Due.is("isOff(0, " + n + ")", x.isOff(0, n), off[n % 7]);
        }
        Due.is("isOff(0, LAST)", x.isOff(0, LAST), off[LAST % 7]);
    }

    private static void feastDays() {
        House x = new House();
        x.feast(0, 5, 10, 0, 1);
        x.feast(0, 5, 10, 0, 2);
        x.parish(0, false);
        x.parish(0, false);
        x.rule(0, 0, 2, 3);
        int day = x.toDay(0, 2000, 5, 11);
        for (int n = day - 6; n < day + 7; n++) {
            Due.is("isOff(0, " + n + ")", x.isOff(0, n), n >= day - 2 && n <= day + 3 ? 1 : 0);
            Due.is("isOff(1, " + n + ")", x.isOff(1, n), 0);
        }
        x.undo();
        Due.is("isOff(0, " + day + ") without the RULE", x.isOff(0, day), 0);
    }

    private static void bridges() {
        House x = new House();
        x.parish(0b0000101, true);
        x.parish(0b0000101, false);
        int[] off = {1, 1, 1, 0, 0, 0, 0};
        for (int n = 1; n < 30; n++) {
            Due.is("isOff(0, " + n + ")", x.isOff(0, n), off[n % 7]);
            Due.is("isOff(1, " + n + ")", x.isOff(1, n), n % 7 == 0 || n % 7 == 2 ? 1 : 0);
        }
        // a day that is OFF by a bridge alone is not FREE, so it bears no other bridge
        x.parish(0b0010101, true);
        Due.is("isOff(2, 3)", x.isOff(2, 3), 1);
        Due.is("isOff(2, 5)", x.isOff(2, 5), 0);
        Due.is("isOff(2, 6)", x.isOff(2, 6), 0);
        // no day is ahead of day 0 or behind the last one
        x.parish(0b1000010, true);
        Due.is("isOff(3, 0)", x.isOff(3, 0), 0);
        Due.is("isOff(3, 7)", x.isOff(3, 7), 1);
        int weekday = LAST % 7;
        x.parish(1 << (weekday + 6) % 7 | 1 << (weekday + 1) % 7, true);
        Due.is("isOff(4, LAST)", x.isOff(4, LAST), 0);
        Due.is("isOff(4, LAST - 7)", x.isOff(4, LAST - 7), 1);
        Due.is("inRow(4, LAST)", x.inRow(4, LAST), 0);
        Due.is("nextOff(4, LAST - 1)", x.nextOff(4, LAST - 1), NONE);
        Due.is("worked(3, 0, 0)", x.worked(3, 0, 0), 1);
    }

    /** The days beside the one that is asked for have YEARS of their own around them. */
    private static void bridgesBetweenFeasts() {
        House x = new House();
        x.parish(0, true);
        x.feast(0, 7, 1, 0, 1);
        x.feast(0, 7, 3, 0, 1);
        x.rule(0, 0, 0, 0);
        x.rule(0, 1, 0, 0);
        int day = x.toDay(0, 2000, 7, 2);
        Due.is("isOff between", x.isOff(0, day), 1);
        Due.is("isOff ahead", x.isOff(0, day - 2), 0);
        Due.is("isOff behind", x.isOff(0, day + 2), 0);
        Due.is("nextOff of the first", x.nextOff(0, day - 1), day);
        Due.is("inRow between", x.inRow(0, day), 3);
        // 1 1 2001 by a FEAST of 2002, 31 12 2000 by one of 1999
        House y = new House();
        y.feast(0, 1, 1, 0, 1);
        y.feast(0, 12, 31, 0, 1);
        for (int i = 0; i < 9; i++) {
            y.feast(3, 2 * i, -40, 0, 1);
            y.feast(3, 2 * i + 1, 40, 0, 1);
        }
        int ahead = y.feast(3, 18, -5, 0, 1);
        int behind = y.feast(3, 19, 6, 0, 1);
        int beside = y.feast(0, 12, 30, 0, 1);
        int beyond = y.feast(0, 1, 2, 0, 1);
        y.parish(0, true);
        y.parish(0, true);
        y.rule(0, ahead, 0, 0);
        y.rule(0, beside, 0, 0);
        y.rule(1, behind, 0, 0);
        y.rule(1, beyond, 0, 0);
        int newYear = y.toDay(0, 2001, 1, 1);
        Due.is("feastDay of 2002", y.feastDay(ahead, 2002), newYear);
        Due.is("feastDay of 1999", y.feastDay(behind, 1999), newYear - 1);
        Due.is("31 12 2000", y.isOff(0, newYear - 1), 1);
        Due.is("1 1 2001", y.isOff(1, newYear), 1);
        Due.is("worked(0, 31 12, 31 12)", y.worked(0, newYear - 1, newYear - 1), 0);
    }

    private static void yearsAround() {
        House x = new House();
        x.feast(0, 12, 31, 0, 1);
        x.feast(0, 1, 1, 0, 1);
        x.parish(0, false);
        x.parish(0, false);
        x.rule(0, 0, 0, 5);
        x.rule(1, 1, 5, 0);
        int newYear = x.toDay(0, 2001, 1, 1);
        Due.is("5 behind 31 12", x.isOff(0, newYear + 4), 1);
        Due.is("6 behind 31 12", x.isOff(0, newYear + 5), 0);
        Due.is("5 ahead of 1 1", x.isOff(1, newYear - 5), 1);
        Due.is("6 ahead of 1 1", x.isOff(1, newYear - 6), 0);
        Due.is("worked(0, ..)", x.worked(0, newYear - 5, newYear + 10), 10);
    }

    /** A FEAST frees days of its own YEAR, the one before and the next one alone. */
    private static void feastsFarBehindFreeNothing() {
        House x = new House();
        x.feast(0, 6, 1, 0, 1);
        for (int i = 1; i < 40; i++) {
            x.feast(3, i - 1, 40, 0, 1);
        }
        x.parish(0, true);
        for (int i = 0; i < 40; i++) {
            x.rule(0, i, 0, 0);
        }
        for (int i = 0; i < 40; i++) {
            int day = x.feastDay(i, 2000);
            int year = x.fromDay(0, day, 0);
            boolean near = year <= 2001;
            Due.yes("feast " + i + " of 2000 is off if near", !near || x.isOff(0, day) == 1);
        }
        // 31 12 2001 is free by the chain of 2000 at most, 1 1 2002 is not
        House y = new House();
        y.feast(0, 12, 30, 0, 1);
        for (int i = 1; i < 10; i++) {
            y.feast(3, i - 1, 40, 0, 1);
        }
        y.feast(3, 9, 6, 0, 1);
        y.parish(0, false);
        y.rule(0, 10, 0, 10);
        int end = y.toDay(0, 2002, 1, 1);
        Due.is("feastDay(10, 2000)", y.feastDay(10, 2000), y.toDay(0, 2000, 12, 30) + 366);
        Due.is("31 12 2001", y.isOff(0, end - 1), 1);
        Due.is("1 1 2002", y.isOff(0, end), 0);
        Due.is("worked over the end", y.worked(0, end - 1, end + 5), 6);
    }

    private static void workedDays() {
        House x = new House();
        x.parish(96, false);
        x.feast(0, 12, 25, 0, 1);
        Due.is("worked(0, 0, 6)", x.worked(0, 0, 6), 5);
        Due.is("worked(0, 4, 4)", x.worked(0, 4, 4), 1);
        Due.is("worked(0, 5, 5)", x.worked(0, 5, 5), 0);
        Due.is("worked(0, 0, 799)", x.worked(0, 0, 799), 114 * 5 + 2);
        Due.is("worked(0, 0, 800)", x.worked(0, 0, 800), BAD);
        Due.is("worked(0, LAST - 799, LAST)", x.worked(0, LAST - 799, LAST), 571);
        x.rule(0, 0, 0, 1);
        int day = x.toDay(0, 2001, 12, 25);
        int free = (day % 7 < 5 ? 1 : 0) + ((day + 1) % 7 < 5 ? 1 : 0);
        Due.is("worked round 25 12", x.worked(0, day - day % 7 - 7, day - day % 7 + 13), 15 - free);
    }

    private static void nextDays() {
        House x = new House();
        x.parish(96, false);
        Due.is("nextOff(0, 0)", x.nextOff(0, 0), 5);
        Due.is("nextOff(0, 5)", x.nextOff(0, 5), 6);
        Due.is("nextOff(0, 6)", x.nextOff(0, 6), 12);
        Due.is("nextOff(0, LAST)", x.nextOff(0, LAST), NONE);
        x.parish(0, true);
        x.feast(0, 2, 29, 0, 1);
        x.rule(1, 0, 0, 0);
        int leapDay = x.toDay(0, 2000, 2, 29);
        Due.is("nextOff 400 ahead", x.nextOff(1, leapDay - 400), leapDay);
        Due.is("nextOff 401 ahead", x.nextOff(1, leapDay - 401), NONE);
        Due.is("nextOff at it", x.nextOff(1, leapDay), NONE);
    }

    private static void rows() {
        House x = new House();
        x.parish(96, false);
        Due.is("inRow(0, 4)", x.inRow(0, 4), 0);
        Due.is("inRow(0, 5)", x.inRow(0, 5), 2);
        Due.is("inRow(0, 6)", x.inRow(0, 6), 2);
        x.parish(127, false);
        Due.is("inRow(1, 1000)", x.inRow(1, 1000), 101);
        Due.is("inRow(1, 0)", x.inRow(1, 0), 51);
        Due.is("inRow(1, 20)", x.inRow(1, 20), 71);
        Due.is("inRow(1, LAST)", x.inRow(1, LAST), 51);
        Due.is("inRow(1, LAST - 3)", x.inRow(1, LAST - 3), 54);
        x.parish(0b0111001, true);
        Due.is("inRow(2, 52)", x.inRow(2, 52), 5);
        Due.is("inRow(2, 55) by a bridge", x.inRow(2, 55), 5);
        Due.is("inRow(2, 57)", x.inRow(2, 57), 0);
        x.parish(0, false);
        x.feast(0, 7, 1, 0, 1);
        x.rule(3, 0, 10, 10);
        int day = x.toDay(0, 2000, 7, 1);
        Due.is("inRow(3, first)", x.inRow(3, day - 10), 21);
        Due.is("inRow(3, last)", x.inRow(3, day + 10), 21);
        Due.is("inRow(3, behind)", x.inRow(3, day + 11), 0);
    }

    private static void refusals() {
        House x = new House();
        Due.is("isOff(0, -1)", x.isOff(0, -1), BAD);
        Due.is("nextOff(0, -1)", x.nextOff(0, -1), BAD);
        Due.is("inRow(0, -1)", x.inRow(0, -1), BAD);
        Due.is("worked(0, -1, 5)", x.worked(0, -1, 5), BAD);
        x.parish(0, false);
        for (int p : new int[] {-1, 1, Integer.MAX_VALUE, Integer.MIN_VALUE}) {
            Due.is("isOff(" + p + ", -1)", x.isOff(p, -1), BAD);
            Due.is("nextOff(" + p + ", -1)", x.nextOff(p, -1), BAD);
            Due.is("inRow(" + p + ", -1)", x.inRow(p, -1), BAD);
            Due.is("worked(" + p + ", 5, 5)", x.worked(p, 5, 5), BAD);
        }
        for (int n : new int[] {-1, LAST + 1, Integer.MAX_VALUE, Integer.MIN_VALUE}) {
            Due.is("isOff(0, " + n + ")", x.isOff(0, n), OUTSIDE);
            Due.is("nextOff(0, " + n + ")", x.nextOff(0, n), OUTSIDE);
            Due.is("inRow(0, " + n + ")", x.inRow(0, n), OUTSIDE);
            Due.is("worked(0, " + n + ", same)", x.worked(0, n, n), OUTSIDE);
        }
        Due.is("worked(0, -1, -2)", x.worked(0, -1, -2), BAD);
        Due.is("worked(0, -1, 799)", x.worked(0, -1, 799), BAD);
        Due.is("worked(0, -1, 798)", x.worked(0, -1, 798), OUTSIDE);
        Due.is("worked(0, MIN, MAX)", x.worked(0, Integer.MIN_VALUE, Integer.MAX_VALUE), BAD);
        Due.is("worked(0, LAST, LAST + 1)", x.worked(0, LAST, LAST + 1), OUTSIDE);
    }
}
