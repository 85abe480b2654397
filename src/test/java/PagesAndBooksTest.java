/** Promises 30 to 37: THE PAGE, THE BOOK, THE TAPE. */
public final class PagesAndBooksTest {
    private static final int BAD = AlmanacHouse.BAD, NONE = AlmanacHouse.NONE;
    private static final int OUTSIDE = AlmanacHouse.OUTSIDE, FULL = AlmanacHouse.FULL;

    public static void main(String[] args) {
        pageOfTheFirstMonth();
        pageOverTwoYears();
        longPages();
        pagesOfWeeksAndOthers();
        moonsAtTheTurnOfADay();
        pageRefuses();
        signRefuses();
        bookOfAYear();
        bridgesAtTheEndsOfABook();
        manyFeastsOnADay();
        booksRefuse();
        tapeOfBytes();
        booksAreVerified();
        Due.end("PagesAndBooksTest");
    }

    private static String line(House x, int line) {
        StringBuilder text = new StringBuilder();
        for (int i = 0; i < 40; i++) {
            text.append((char) x.sign(line, i));
        }
        return text.toString();
    }

    private static void lineIs(House x, int line, String due) {
        String got = line(x, line);
        Due.yes("line " + line + " is '" + due + "', not '" + got + "'", got.equals(String.format("%-40s", due)));
    }

    private static void pageOfTheFirstMonth() {
        House x = new House();
        for (int i = 0; i < 28; i++) {
            lineIs(x, i, "");
        }
        x.parish(64, false);
        x.feast(0, 3, 5, 0, 9);
        x.feast(0, 3, 5, 0, 0);
        x.feast(0, 3, 5, 0, 4);
        x.feast(0, 3, 14, 0, 2);
        for (int i = 4; i < 12; i++) {
            x.feast(0, 4, 1, 0, 1);
        }
        x.feast(0, 3, 31, 0, 3);
        Due.is("page(0, 0, 0, 3)", x.page(0, 0, 0, 3), 12);
        lineIs(x, 0, "0 3");
        lineIs(x, 1, " M  T  W  T  F  S  S");
        lineIs(x, 2, " 1  2  3  4  5* 6* 7.  o");
        lineIs(x, 3, " 8  9 10 11 12 13 14*");
        lineIs(x, 4, "15 16 17 18 19 20 21.");
        lineIs(x, 5, "22 23 24 25 26 27 28.");
        lineIs(x, 6, "29 30 31*               o");
        lineIs(x, 7, " 5 0  9");
        lineIs(x, 8, " 5 1  0");
        lineIs(x, 9, " 6 2  4");
        lineIs(x, 10, "14 3  2");
        lineIs(x, 11, "31 12 3");
        for (int i = 12; i < 28; i++) {
            lineIs(x, i, "");
        }
        Due.is("page(0, 6, 4166, 1)", x.page(0, 6, 4166, 1), 6);
        lineIs(x, 0, "4166 1");
        lineIs(x, 7, "");
    }

    /** A MONTH of CALENDAR 5 over the turn of the YEAR: each day's own YEAR counts. */
    private static void pageOverTwoYears() {
        House x = new House();
        x.parish(0, false);
        x.feast(0, 12, 31, 0, 9);
        x.feast(0, 12, 31, 0, 8);
        x.feast(0, 1, 2, 0, 1);
        // 1 1 1 is day 306, a Saturday
        Due.is("fromDay(5, 306, 1)", x.fromDay(5, 306, 1), 53);
        Due.is("page(0, 5, 0, 53)", x.page(0, 5, 0, 53), 5);
        lineIs(x, 0, "0 53");
        Due.yes("line 2", line(x, 2).startsWith(" 1  2  3  4  5* 6  7*"));
        lineIs(x, 3, " 5 0  9");
        lineIs(x, 4, " 7 2  1");
    }

    private static void longPages() {
        House x = new House();
        x.row(1001, 200);
        x.parish(0, false);
        x.feast(0, 1, 1, 0, 9);
        Due.is("1001 is a Monday", 1001 % 7, 0);
        Due.is("page(0, 7, 1, 1)", x.page(0, 7, 1, 1), 28);
        Due.yes("line 2", line(x, 2).startsWith(" 1  2  3  4  5  6  7 "));
        Due.yes("line 16", line(x, 16).startsWith("99  0  1  2  3  4  5 "));
        Due.yes("line 17", line(x, 17).startsWith(" 6  7  8  9 10 11 12 "));
        Due.yes("line 27", line(x, 27).startsWith("76 77 78 79 80 81 82 "));
        House y = new House();
        y.parish(0, false);
        for (int i = 0; i < 60; i++) {
            y.feast(0, 3, 1, 0, 0);
        }
        Due.is("page(0, 0, 1, 3)", y.page(0, 0, 1, 3), 28);
        lineIs(y, 7, " 1 0  0");
        lineIs(y, 27, " 1 20 0");
        House z = new House();
        z.row(1001, 175);
        z.parish(0, false);
        z.feast(0, 1, 1, 0, 9);
        // 25 weeks, then the FEAST's line is the last one
        int newYear = z.feastDay(0, 3);
        Due.is("page(0, 7, 1, 1)", z.page(0, 7, 1, 1), 28);
        int number = newYear - 1001 + 1;
        lineIs(z, 27, String.format("%2d", number % 100) + " 0  9");
    }

    private static void pagesOfWeeksAndOthers() {
        House x = new House();
        x.parish(127, false);
        Due.is("page(0, 5, 2000, 7)", x.page(0, 5, 2000, 7), 3);
        lineIs(x, 0, "2000 7");
        Due.yes("line 2", line(x, 2).startsWith(" 1. 2. 3. 4. 5. 6. 7."));
        Due.is("page(0, 2, 3, 13)", x.page(0, 2, 3, 13), 2 + weeks(x, 2, 3, 13));
        Due.is("page(0, 4, 3, 13)", x.page(0, 4, 3, 13), 2 + weeks(x, 4, 3, 13));
        for (int month = 1; month <= 12; month++) {
            Due.is("page(0, 3, 77, " + month + ")", x.page(0, 3, 77, month), 2 + weeks(x, 3, 77, month));
            for (int i = 0; i < 28; i++) {
                for (int w = 0; w < 7; w++) {
                    boolean day = x.sign(i, 3 * w + 1) != 32;
                    Due.is("the sign behind a day", x.sign(i, 3 * w + 2), i > 1 && day ? '.' : 32);
                }
            }
        }
        // each mean NEW MOON of a YEAR stands on its page
        int moons = 0;
        for (int month = 1; month <= 12; month++) {
            x.page(0, 0, 1999, month);
            int first = x.toDay(0, 1999, month, 1);
            for (int day = 1; day <= x.monthLength(0, 1999, month); day++) {
                int n = first + day - 1;
                int sign = x.sign(2 + (n - (first - first % 7)) / 7, 23 + n % 7);
                boolean isNew = n == x.newMoon((int) ((n * 25920L + 25919 - 5604) / 765433));
                Due.is("the moon of day " + n, sign, isNew ? 'o' : 32);
                moons += isNew ? 1 : 0;
            }
        }
        Due.yes("twelve or thirteen moons", moons == 12 || moons == 13);
    }

    /** A NEW MOON in a day's first or last PART falls on that day and on no other. */
    private static void moonsAtTheTurnOfADay() {
        House x = new House();
        x.parish(0, false);
        int found = 0;
        for (int k = 0; k <= 50794; k++) {
            long part = (5604 + k * 765433L) % 25920;
            if (part <= 1 || part >= 25918) {
                found++;
                int n = x.newMoon(k);
                for (int day = n - 1; day <= n + 1; day++) {
                    x.page(0, 6, x.fromDay(6, day, 0), x.fromDay(6, day, 1));
                    int first = day - x.fromDay(6, day, 2) + 1;
                    int line = 2 + day / 7 - first / 7;
                    Due.is("the moon of day " + day, x.sign(line, 23 + day % 7), day == n ? 'o' : 32);
                }
                Due.yes("age(" + n + ")", part != 0 || x.age(n) == 0);
            }
        }
        Due.yes("there are such moons", found >= 4);
    }

    private static int weeks(House x, int calendar, int year, int month) {
        int first = x.toDay(calendar, year, month, 1);
        int last = first + x.monthLength(calendar, year, month) - 1;
        return last / 7 - first / 7 + 1;
    }

    private static void pageRefuses() {
        House x = new House();
        Due.is("page(0, 0, 1, 1)", x.page(0, 0, 1, 1), BAD);
        x.parish(0, false);
        x.page(0, 0, 9, 9);
        Due.is("page(1, 0, 1, 1)", x.page(1, 0, 1, 1), BAD);
        Due.is("page(-1, 0, 1, 1)", x.page(-1, 0, 1, 1), BAD);
        Due.is("page(0, 8, 1, 1)", x.page(0, 8, 1, 1), BAD);
        Due.is("page(0, -1, 1, 1)", x.page(0, -1, 1, 1), BAD);
        Due.is("page(0, 0, 5001, 1)", x.page(0, 0, 5001, 1), NONE);
        Due.is("page(0, 0, 5, 13)", x.page(0, 0, 5, 13), NONE);
        Due.is("page(0, 0, 5, 0)", x.page(0, 0, 5, 0), NONE);
        Due.is("page(0, 2, 0, 1)", x.page(0, 2, 0, 1), NONE);
        Due.is("page(0, 7, 1, 1)", x.page(0, 7, 1, 1), NONE);
        Due.is("page(0, 0, 0, 2)", x.page(0, 0, 0, 2), OUTSIDE);
        Due.is("page(0, 1, 0, 3)", x.page(0, 1, 0, 3), OUTSIDE);
        Due.is("page(0, 0, 4107, 1)", x.page(0, 0, 4107, 1), OUTSIDE);
        Due.is("page(0, 0, 5000, 1)", x.page(0, 0, 5000, 1), OUTSIDE);
        lineIs(x, 0, "9 9");
        Due.is("page(0, 1, 0, 4)", x.page(0, 1, 0, 4), 2 + weeks(x, 1, 0, 4));
        Due.is("page(0, 0, 4106, 12)", x.page(0, 0, 4106, 12), 2 + weeks(x, 0, 4106, 12));
    }

    private static void signRefuses() {
        House x = new House();
        Due.is("sign(0, 0)", x.sign(0, 0), 32);
        Due.is("sign(27, 39)", x.sign(27, 39), 32);
        for (int bad : new int[] {-1, 40, Integer.MAX_VALUE, Integer.MIN_VALUE}) {
            Due.is("sign(" + bad + ", 0)", x.sign(bad, 0), BAD);
            Due.is("sign(0, " + bad + ")", x.sign(0, bad), BAD);
        }
        Due.is("sign(28, 0)", x.sign(28, 0), BAD);
        Due.is("sign(27, 40)", x.sign(27, 40), BAD);
    }

    private static int sum(House x, int from, int to) {
        int s = 1;
        for (int i = from; i < to; i++) {
            int mixed = s ^ x.byteAt(i);
            s = (mixed << 9 | mixed >>> 23) * 16777619;
        }
        return s;
    }

    private static void sumIs(House x, int from, int at) {
        int s = sum(x, from, at);
        for (int i = 0; i < 4; i++) {
            Due.is("byte " + i + " of the SUM", x.byteAt(at + i), s >>> 24 - 8 * i & 255);
        }
    }

    private static void bookOfAYear() {
        House x = new House();
        x.parish(64, true);
        x.feast(0, 12, 25, 0, 5);
        x.feast(0, 12, 25, 0, 0);
        x.feast(0, 12, 31, 0, 7);
        x.feast(0, 12, 31, 0, 6);
        x.rule(0, 0, 0, 1);
        Due.is("book(0, 2023)", x.book(0, 2023), 373);
        Due.is("byteAt(0)", x.byteAt(0), 2023 / 256);
        Due.is("byteAt(1)", x.byteAt(1), 2023 % 256);
        Due.is("byteAt(2)", x.byteAt(2), 1);
        Due.is("byteAt(3)", x.byteAt(3), 365 - 256);
        int first = x.toDay(0, 2023, 1, 1);
        for (int i = 0; i < 365; i++) {
            int due = (first + i) % 7 + 8 * x.isOff(0, first + i);
            due += i == 358 ? 32 : i == 364 ? 16 : 0;
            Due.is("byteAt(" + (4 + i) + ")", x.byteAt(4 + i), due);
        }
        sumIs(x, 0, 369);
        Due.is("book(0, 2024)", x.book(0, 2024), 373 + 374);
        Due.is("days of the second", x.byteAt(373 + 3), 366 - 256);
        sumIs(x, 373, 373 + 370);
        // the FEAST moved from 31 12 2023 is none of 2024
        Due.is("1 1 2024", x.byteAt(373 + 4) >> 4, 0);
        Due.is("verify()", x.verify(), 2);
        Due.is("count(6)", x.count(6), 747);
    }

    private static void bridgesAtTheEndsOfABook() {
        House x = new House();
        x.parish(0, true);
        x.parish(0, true);
        x.feast(0, 12, 30, 0, 1);
        x.feast(0, 1, 1, 0, 1);
        x.feast(0, 12, 31, 0, 1);
        x.feast(0, 1, 2, 0, 1);
        x.rule(0, 0, 0, 0);
        x.rule(0, 1, 0, 0);
        x.rule(1, 2, 0, 0);
        x.rule(1, 3, 0, 0);
        Due.is("book(0, 2001)", x.book(0, 2001), 373);
        Due.is("29 12 2001 is not off", x.byteAt(4 + 362) & 8, 0);
        Due.is("31 12 2001 is off by a bridge", x.byteAt(4 + 364) & 8, 8);
        Due.is("book(1, 2001)", x.book(1, 2001), 746);
        Due.is("1 1 2001 is off by a bridge", x.byteAt(373 + 4) & 8, 8);
        Due.is("3 1 2001 is not off", x.byteAt(373 + 6) & 8, 0);
    }

    private static void manyFeastsOnADay() {
        House x = new House();
        x.parish(0, false);
        for (int i = 0; i < 20; i++) {
            x.feast(0, 1, 1, 0, 0);
            if (i < 15) {
                x.feast(0, 1, 2, 0, 0);
            }
            if (i < 14) {
                x.feast(0, 1, 3, 0, 0);
            }
        }
        x.book(0, 100);
        Due.is("20 FEASTS", x.byteAt(4) >> 4, 15);
        Due.is("15 FEASTS", x.byteAt(5) >> 4, 15);
        Due.is("14 FEASTS", x.byteAt(6) >> 4, 14);
    }

    private static void booksRefuse() {
        House x = new House();
        Due.is("book(0, 2000)", x.book(0, 2000), BAD);
        x.parish(0, false);
        Due.is("book(1, -1)", x.book(1, -1), BAD);
        Due.is("book(-1, 5)", x.book(-1, 5), BAD);
        Due.is("book(0, -1)", x.book(0, -1), NONE);
        Due.is("book(0, 5001)", x.book(0, 5001), NONE);
        Due.is("book(0, 0)", x.book(0, 0), OUTSIDE);
        Due.is("book(0, 4107)", x.book(0, 4107), OUTSIDE);
        Due.is("book(0, 5000)", x.book(0, 5000), OUTSIDE);
        Due.is("count(6)", x.count(6), 0);
        Due.is("book(0, 4106)", x.book(0, 4106), 373);
        Due.is("book(0, 1)", x.book(0, 1), 746);
        Due.is("book(0, 3)", x.book(0, 3), 1119);
        Due.is("book(0, 5)", x.book(0, 5), FULL);
        Due.is("book(0, 4107) of a full one", x.book(0, 4107), OUTSIDE);
        Due.is("count(6)", x.count(6), 1119);
        Due.is("verify()", x.verify(), 3);
        x.wipe();
        for (int i = 0; i < 206; i++) {
            x.load(0, 4);
        }
        x.load(0, 3);
        Due.is("count(6)", x.count(6), 827);
        Due.is("a book of 374", x.book(0, 4), FULL);
        Due.is("a book of 373", x.book(0, 5), 1200);
    }

    private static void tapeOfBytes() {
        House x = new House();
        Due.is("byteAt(0)", x.byteAt(0), NONE);
        Due.is("spoil(0, 1)", x.spoil(0, 1), NONE);
        Due.is("wipe()", x.wipe(), 0);
        Due.is("load(5, 0)", x.load(5, 0), BAD);
        Due.is("load(5, 5)", x.load(5, 5), BAD);
        Due.is("load(5, MIN)", x.load(5, Integer.MIN_VALUE), BAD);
        Due.is("load(0x89ABCDEF, 4)", x.load(0x89ABCDEF, 4), 4);
        Due.is("load(0x89ABCDEF, 3)", x.load(0x89ABCDEF, 3), 7);
        Due.is("load(0x89ABCDEF, 1)", x.load(0x89ABCDEF, 1), 8);
        Due.is("load(-1, 2)", x.load(-1, 2), 10);
        int[] due = {0x89, 0xAB, 0xCD, 0xEF, 0xAB, 0xCD, 0xEF, 0xEF, 255, 255};
        for (int i = 0; i < due.length; i++) {
            Due.is("byteAt(" + i + ")", x.byteAt(i), due[i]);
        }
        for (int i : new int[] {-1, 10, 1200, Integer.MAX_VALUE, Integer.MIN_VALUE}) {
            Due.is("byteAt(" + i + ")", x.byteAt(i), NONE);
            Due.is("spoil(" + i + ", 1)", x.spoil(i, 1), NONE);
        }
        Due.is("spoil(1, 0x0101)", x.spoil(1, 0x0101), 0xAA);
        Due.is("byteAt(1)", x.byteAt(1), 0xAA);
        Due.is("spoil(1, -1)", x.spoil(1, -1), 0x55);
        Due.is("spoil(1, 256)", x.spoil(1, 256), 0x55);
        Due.is("wipe()", x.wipe(), 10);
        Due.is("count(6)", x.count(6), 0);
        Due.is("byteAt(0)", x.byteAt(0), NONE);
        for (int i = 0; i < 299; i++) {
            x.load(i, 4);
        }
        Due.is("load(1, 3)", x.load(1, 3), 1199);
        Due.is("load(1, 2)", x.load(1, 2), FULL);
        Due.is("load(1, 5)", x.load(1, 5), BAD);
        Due.is("load(7, 1)", x.load(7, 1), 1200);
        Due.is("load(7, 1)", x.load(7, 1), FULL);
        Due.is("byteAt(1199)", x.byteAt(1199), 7);
        Due.is("verify()", x.verify(), NONE);
    }

    private static int sumOf(int... bytes) {
        int s = 1;
        for (int b : bytes) {
            s = Integer.rotateLeft(s ^ b, 9) * 0x01000193;
        }
        return s;
    }

    private static void booksAreVerified() {
        House x = new House();
        Due.is("verify()", x.verify(), NONE);
        // a BOOK of no days and one of two; the YEAR is not looked at
        x.load(0xFFFF0000, 4);
        Due.is("a head alone", x.verify(), NONE);
        x.load(sumOf(255, 255, 0, 0), 4);
        Due.is("no days", x.verify(), 1);
        x.load(0x00010002, 4);
        x.load(0xFE07, 2);
        Due.is("a SUM is missing", x.verify(), NONE);
        int s = sumOf(0, 1, 0, 2, 0xFE, 7);
        x.load(s >>> 8, 3);
        Due.is("a byte is missing", x.verify(), NONE);
        x.load(s, 1);
        Due.is("two BOOKS", x.verify(), 2);
        for (int i = 0; i < x.count(6); i++) {
            x.spoil(i, 4);
            Due.is("byte " + i + " is spoilt", x.verify(), NONE);
            x.spoil(i, 4);
        }
        Due.is("two BOOKS again", x.verify(), 2);
        x.load(0, 1);
        Due.is("a byte more", x.verify(), NONE);
        x.wipe();
        Due.is("wiped", x.verify(), NONE);
        x.load(0x0000FFFF, 4);
        x.load(0, 4);
        Due.is("many days", x.verify(), NONE);
        x.wipe();
        for (int i = 0; i < 150; i++) {
            x.load(0, 4);
            x.load(sumOf(0, 0, 0, 0), 4);
        }
        Due.is("150 BOOKS", x.verify(), 150);
    }
}
