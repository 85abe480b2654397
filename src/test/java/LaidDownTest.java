/** Promises 1, 38 and 39: a new object, undo, count. */
public final class LaidDownTest {
    private static final int BAD = AlmanacHouse.BAD, NONE = AlmanacHouse.NONE;

    public static void main(String[] args) {
        newObjects();
        objectsShareNothing();
        undoTakesBackTheLatest();
        undoIsOfAHundred();
        otherCallsAreNotTakenBack();
        takenBackIsAsIfNever();
        counts();
        Due.end("LaidDownTest");
    }

    private static void newObjects() {
        House x = new House();
        for (int what = 0; what <= 6; what++) {
            Due.is("count(" + what + ")", x.count(what), 0);
        }
        Due.is("undo()", x.undo(), NONE);
        Due.is("months(7, 1)", x.months(7, 1), NONE);
        Due.is("spellings(1)", x.spellings(1), 0);
        Due.is("feastOn(5, 0)", x.feastOn(5, 0), NONE);
        Due.is("feastDay(0, 5)", x.feastDay(0, 5), BAD);
        Due.is("isOff(0, 5)", x.isOff(0, 5), BAD);
        Due.is("verify()", x.verify(), NONE);
        Due.is("byteAt(0)", x.byteAt(0), NONE);
        for (int line = 0; line < 28; line++) {
            for (int i = 0; i < 40; i++) {
                Due.is("sign(" + line + ", " + i + ")", x.sign(line, i), 32);
            }
        }
    }

    private static void objectsShareNothing() {
        AlmanacHouse x = new AlmanacHouse();
        AlmanacHouse y = new AlmanacHouse();
        y.row(0, 5);
        y.name(0, 1, 1);
        y.feast(0, 1, 1, 0, 1);
        y.parish(0, false);
        y.rule(0, 0, 0, 0);
        y.load(1, 1);
        y.page(0, 0, 8, 9);
        AlmanacHouse z = new AlmanacHouse();
        for (int what = 0; what <= 6; what++) {
            Due.is("count(" + what + ") of one made before", x.count(what), 0);
            Due.is("count(" + what + ") of one made behind", z.count(what), 0);
        }
        for (int i = 0; i < 40; i++) {
            Due.is("sign(0, " + i + ") of one made before", x.sign(0, i), 32);
            Due.is("sign(0, " + i + ") of one made behind", z.sign(0, i), 32);
        }
        Due.is("undo() of one made before", x.undo(), NONE);
        Due.is("count(5) of the one", y.count(5), 5);
    }

    private static void undoTakesBackTheLatest() {
        House x = new House();
        x.parish(96, true);
        x.row(50, 7);
        x.name(3, 3, 33);
        x.feast(0, 7, 4, 0, 3);
        x.rule(0, 0, 1, 1);
        int day = x.toDay(0, 1776, 7, 4);
        int free = day + (day % 7 >= 3 && day % 7 <= 5 ? -1 : 0);
        Due.is("isOff(0, " + free + ")", x.isOff(0, free), 1);
        Due.is("count(5)", x.count(5), 5);
        Due.is("undo() of the RULE", x.undo(), 4);
        Due.is("isOff(0, " + free + ")", x.isOff(0, free), free % 7 >= 5 ? 1 : 0);
        Due.is("count(4)", x.count(4), 0);
        Due.is("feastDay(0, 1776)", x.feastDay(0, 1776), day);
        Due.is("undo() of the FEAST", x.undo(), 3);
        Due.is("feastDay(0, 1776)", x.feastDay(0, 1776), BAD);
        Due.is("feastOn(" + day + ", 0)", x.feastOn(day, 0), NONE);
        Due.is("monthNamed(3, 33)", x.monthNamed(3, 33), 3);
        Due.is("undo() of the word", x.undo(), 2);
        Due.is("monthNamed(3, 33)", x.monthNamed(3, 33), NONE);
        Due.is("fromDay(7, 50, 1)", x.fromDay(7, 50, 1), 1);
        Due.is("undo() of the ROW", x.undo(), 1);
        Due.is("fromDay(7, 50, 1)", x.fromDay(7, 50, 1), NONE);
        Due.is("row(9, 9) from anywhere again", x.row(9, 9), 1);
        Due.is("undo() of it", x.undo(), 1);
        Due.is("isOff(0, 5)", x.isOff(0, 5), 1);
        Due.is("undo() of the PARISH", x.undo(), 0);
        Due.is("isOff(0, 5)", x.isOff(0, 5), BAD);
        Due.is("undo()", x.undo(), NONE);
    }

    private static void undoIsOfAHundred() {
        House x = new House();
        for (int i = 0; i < 150; i++) {
            x.row(10 * i, 10);
            Due.is("count(5)", x.count(5), Math.min(100, i + 1));
        }
        for (int i = 0; i < 40; i++) {
            Due.is("undo() " + i, x.undo(), 99 - i);
        }
        Due.is("count(0)", x.count(0), 110);
        for (int i = 0; i < 30; i++) {
            x.name(i % 8, i / 8 + 1, 7);
            x.name(i % 8, i / 8 + 1, 8 + i);
        }
        int words = x.count(1);
        Due.is("words", words, 8 + 30);
        Due.is("count(5)", x.count(5), 60 + words);
        for (int i = 97; i >= 0; i--) {
            Due.is("undo()", x.undo(), i);
        }
        Due.is("undo()", x.undo(), NONE);
        Due.is("count(0)", x.count(0), 50);
        Due.is("count(1)", x.count(1), 0);
        Due.is("row(500, 1)", x.row(500, 1), 51);
        Due.is("undo()", x.undo(), 0);
        Due.is("undo()", x.undo(), NONE);
        Due.is("count(0)", x.count(0), 50);
    }

    private static void otherCallsAreNotTakenBack() {
        House x = new House();
        x.parish(1, false);
        x.load(77, 1);
        x.page(0, 0, 8, 9);
        x.book(0, 9);
        x.spoil(0, 1);
        Due.is("count(5)", x.count(5), 1);
        Due.is("undo()", x.undo(), 0);
        Due.is("count(6)", x.count(6), 374);
        Due.is("byteAt(0)", x.byteAt(0), 76);
        Due.is("sign(0, 0)", x.sign(0, 0), '8');
        x.wipe();
        Due.is("undo()", x.undo(), NONE);
        Due.is("count(6)", x.count(6), 0);
        // refused ones are none
        x.row(0, 0);
        x.name(9, 0, 0);
        x.feast(9, 9, 9, 9, 99);
        x.parish(-1, true);
        x.rule(0, 0, 0, 0);
        Due.is("count(5)", x.count(5), 0);
    }

    private static void takenBackIsAsIfNever() {
        House x = new House();
        x.feast(0, 5, 5, 0, 1);
        Due.is("moved(0, 7)", x.moved(0, 7), 0);
        x.feast(0, 5, 5, 0, 2);
        Due.is("moved(0, 7) by another", x.moved(0, 7), 1);
        x.undo();
        Due.is("moved(0, 7) again", x.moved(0, 7), 0);
        x.parish(0, false);
        x.rule(0, 0, 0, 0);
        x.undo();
        x.undo();
        Due.is("parish 0 again", x.parish(0, true), 0);
        Due.is("it has no RULES", x.rule(0, 0, 0, 0), 1);
    }

    private static void counts() {
        House x = new House();
        x.row(0, 1);
        x.name(0, 1, 1);
        x.name(0, 1, 2);
        x.feast(2, 0, 0, 0, 0);
        x.feast(2, 0, 0, 0, 0);
        x.feast(2, 0, 0, 0, 0);
        x.parish(0, false);
        x.rule(0, 0, 0, 0);
        x.rule(0, 1, 0, 0);
        x.load(0, 3);
        int[] due = {1, 2, 3, 1, 2, 9, 3};
        for (int what = 0; what <= 6; what++) {
            Due.is("count(" + what + ")", x.count(what), due[what]);
        }
        for (int what : new int[] {-1, 7, Integer.MAX_VALUE, Integer.MIN_VALUE}) {
            Due.is("count(" + what + ")", x.count(what), BAD);
        }
    }
}
