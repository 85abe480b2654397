/** Promises 11 to 14: ROWS and words. */
public final class TownAndWordsTest {
    private static final int BAD = AlmanacHouse.BAD, NONE = AlmanacHouse.NONE;
    private static final int OUTSIDE = AlmanacHouse.OUTSIDE, FULL = AlmanacHouse.FULL;

    public static void main(String[] args) {
        rowsFollowOneAnother();
        rowsRefuse();
        rowsAreFull();
        rowsAreFullAtTheEnd();
        wordsNameMonths();
        wordsRefuse();
        wordsAreFull();
        Due.end("TownAndWordsTest");
    }

    private static void rowsFollowOneAnother() {
        House x = new House();
        Due.is("row(700, 1)", x.row(700, 1), 1);
        Due.is("row(701, 200)", x.row(701, 200), 2);
        Due.is("row(901, 30)", x.row(901, 30), 3);
        Due.is("monthLength(7, 1, 2)", x.monthLength(7, 1, 2), 200);
        Due.is("toDay(7, 1, 3, 1)", x.toDay(7, 1, 3, 1), 901);
        Due.is("row(930, 5)", x.row(930, 5), BAD);
        Due.is("row(932, 5)", x.row(932, 5), BAD);
        Due.is("row(700, 5)", x.row(700, 5), BAD);
        Due.is("row(-1, 5)", x.row(-1, 5), BAD);
        Due.is("count(0)", x.count(0), 3);
        Due.is("count(5)", x.count(5), 3);
        Due.is("row(931, 5)", x.row(931, 5), 4);
    }

    private static void rowsRefuse() {
        House x = new House();
        for (int length : new int[] {0, -1, 201, Integer.MAX_VALUE, Integer.MIN_VALUE}) {
            Due.is("row(-1, " + length + ")", x.row(-1, length), BAD);
            Due.is("row(5, " + length + ")", x.row(5, length), BAD);
        }
        for (int first : new int[] {-1, -200, 1500001, 1499802, Integer.MAX_VALUE, Integer.MIN_VALUE}) {
            Due.is("row(" + first + ", 200)", x.row(first, 200), OUTSIDE);
        }
        Due.is("row(1499801, 200)", x.row(1499801, 200), 1);
        Due.is("row(1500001, 1) behind the last day", x.row(1500001, 1), OUTSIDE);
        Due.is("count(0)", x.count(0), 1);
        x = new House();
        Due.is("row(1500000, 1)", x.row(1500000, 1), 1);
        Due.is("fromDay(7, 1500000, 2)", x.fromDay(7, 1500000, 2), 1);
    }

    private static void rowsAreFull() {
        House x = new House();
        for (int i = 0; i < 500; i++) {
            Due.is("row " + i, x.row(10 + 3 * i, 3), i + 1);
        }
        Due.is("row(1510, 3)", x.row(1510, 3), FULL);
        Due.is("row(1510, 201)", x.row(1510, 201), BAD);
        Due.is("row(1511, 3)", x.row(1511, 3), BAD);
        Due.is("months(7, 50)", x.months(7, 50), 10);
        Due.is("months(7, 51)", x.months(7, 51), NONE);
        Due.is("fromDay(7, 1509, 0)", x.fromDay(7, 1509, 0), 50);
        Due.is("fromDay(7, 1510, 0)", x.fromDay(7, 1510, 0), NONE);
        Due.is("yearLength(7, 50)", x.yearLength(7, 50), 30);
        Due.is("addMonths(7, 10, 499)", x.addMonths(7, 10, 499), 1507);
        Due.is("addMonths(7, 10, 500)", x.addMonths(7, 10, 500), OUTSIDE);
        Due.is("undo()", x.undo(), 99);
        Due.is("row(1507, 200)", x.row(1507, 200), 500);
        Due.is("monthLength(7, 50, 10)", x.monthLength(7, 50, 10), 200);
    }

    private static void rowsAreFullAtTheEnd() {
        House x = new House();
        for (int i = 0; i < 500; i++) {
            x.row(1499501 + i, 1);
        }
        Due.is("count(0)", x.count(0), 500);
        Due.is("row(1500001, 1)", x.row(1500001, 1), OUTSIDE);
    }

    private static void wordsNameMonths() {
        House x = new House();
        Due.is("name(0, 1, 5)", x.name(0, 1, 5), 1);
        Due.is("name(0, 1, -5)", x.name(0, 1, -5), 2);
        Due.is("name(0, 53, MAX)", x.name(0, 53, Long.MAX_VALUE), 1);
        Due.is("name(7, 53, 5)", x.name(7, 53, 5), 1);
        Due.is("name(3, 2, 5)", x.name(3, 2, 5), 1);
        Due.is("name(0, 1, 5 + 2^32)", x.name(0, 1, 5 + (1L << 32)), 3);
        Due.is("monthNamed(0, 5)", x.monthNamed(0, 5), 1);
        Due.is("monthNamed(0, -5)", x.monthNamed(0, -5), 1);
        Due.is("monthNamed(7, 5)", x.monthNamed(7, 5), 53);
        Due.is("monthNamed(3, 5)", x.monthNamed(3, 5), 2);
        Due.is("monthNamed(2, 5)", x.monthNamed(2, 5), NONE);
        Due.is("monthNamed(0, MAX)", x.monthNamed(0, Long.MAX_VALUE), 53);
        Due.is("monthNamed(0, 0)", x.monthNamed(0, 0), NONE);
        Due.is("spellings(5)", x.spellings(5), 3);
        Due.is("spellings(-5)", x.spellings(-5), 1);
        Due.is("spellings(6)", x.spellings(6), 0);
        Due.is("spellings(0)", x.spellings(0), 0);
        for (int c = 0; c < 8; c++) {
            x.name(c, 9, 77);
        }
        Due.is("spellings(77)", x.spellings(77), 8);
    }

    private static void wordsRefuse() {
        House x = new House();
        for (int c : new int[] {-1, 8, Integer.MAX_VALUE, Integer.MIN_VALUE}) {
            Due.is("name(" + c + ", 1, 5)", x.name(c, 1, 5), BAD);
            Due.is("monthNamed(" + c + ", 5)", x.monthNamed(c, 5), BAD);
        }
        for (int m : new int[] {-1, 0, 54, Integer.MAX_VALUE, Integer.MIN_VALUE}) {
            Due.is("name(0, " + m + ", 5)", x.name(0, m, 5), BAD);
        }
        Due.is("name(0, 1, 0)", x.name(0, 1, 0), BAD);
        for (int w = 1; w <= 3; w++) {
            x.name(0, 1, w);
        }
        Due.is("a fourth word of a MONTH", x.name(0, 1, 4), FULL);
        Due.is("a word that is there, of a full MONTH", x.name(0, 1, 3), BAD);
        Due.is("a word that names another MONTH", x.name(0, 2, 3), BAD);
        Due.is("a word for another CALENDAR's MONTH", x.name(1, 1, 3), 1);
        Due.is("count(1)", x.count(1), 4);
        Due.is("count(5)", x.count(5), 4);
        Due.is("monthNamed(0, 4)", x.monthNamed(0, 4), NONE);
    }

    private static void wordsAreFull() {
        House x = new House();
        for (int i = 0; i < 300; i++) {
            int calendar = i / 150;
            Due.is("name " + i, x.name(calendar, i % 150 / 3 + 1, 1000 + i), i % 3 + 1);
        }
        Due.is("word 301", x.name(5, 5, 9), FULL);
        Due.is("a bad word 301", x.name(5, 54, 9), BAD);
        Due.is("a word that is there", x.name(0, 53, 1000), BAD);
        Due.is("monthNamed(1, 1299)", x.monthNamed(1, 1299), 50);
        Due.is("undo()", x.undo(), 99);
        Due.is("monthNamed(1, 1299)", x.monthNamed(1, 1299), NONE);
        Due.is("word 300 again", x.name(5, 5, 9), 1);
    }
}
