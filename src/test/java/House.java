import java.util.ArrayList;
import java.util.List;

/**
 * An AlmanacHouse that may be asked without end. What an object answers behind its
 * 512th call is free, so no test may look at it: when an object has been used that
 * often, a new one is made, and all that could have changed the old one is told it
 * again, with the same answers.
 */
final class House {
    static final int MOST_CALLS = 512;
    /** With more than this told, too few calls of each object are left for questions. */
    private static final int MOST_TOLD = 500;

    /** A call that may change the object. */
    private interface Call {
        int tell(AlmanacHouse object);
    }

    private final List<Call> told = new ArrayList<>();
    private final List<Integer> answers = new ArrayList<>();
    private AlmanacHouse object = new AlmanacHouse();
    private int calls;

    /** Whether it can take one more call that may change it, and be asked for it behind that. */
    boolean hasRoom() {
        return told.size() < MOST_TOLD;
    }

    private AlmanacHouse used() {
        if (calls == MOST_CALLS) {
            beginAnew();
        }
        calls++;
        return object;
    }

    private void beginAnew() {
        if (told.size() >= MOST_CALLS) {
            throw new IllegalStateException("a test tells one object more than it is to be used for");
        }
        object = new AlmanacHouse();
        for (int i = 0; i < told.size(); i++) {
            int answer = told.get(i).tell(object);
            if (answer != answers.get(i)) {
                Due.is("call " + i + " of those that may change an object, told again", answer, answers.get(i));
            }
        }
        calls = told.size();
    }

    private int tell(Call call) {
        int answer = call.tell(used());
        told.add(call);
        answers.add(answer);
        return answer;
    }

    // ---- 1 calendars

    int toDay(int calendar, int year, int month, int day) {
        return used().toDay(calendar, year, month, day);
    }

    int fromDay(int calendar, int n, int what) {
        return used().fromDay(calendar, n, what);
    }

    int monthLength(int calendar, int year, int month) {
        return used().monthLength(calendar, year, month);
    }

    int yearLength(int calendar, int year) {
        return used().yearLength(calendar, year);
    }

    int months(int calendar, int year) {
        return used().months(calendar, year);
    }

    int addMonths(int calendar, int n, int k) {
        return used().addMonths(calendar, n, k);
    }

    int addYears(int calendar, int n, int k) {
        return used().addYears(calendar, n, k);
    }

    int difference(int calendar, int a, int b, int what) {
        return used().difference(calendar, a, b, what);
    }

    int birthday(int calendar, int n, int year) {
        return used().birthday(calendar, n, year);
    }

    int row(int first, int length) {
        return tell(x -> x.row(first, length));
    }

    int name(int calendar, int month, long word) {
        return tell(x -> x.name(calendar, month, word));
    }

    int monthNamed(int calendar, long word) {
        return used().monthNamed(calendar, word);
    }

    int spellings(long word) {
        return used().spellings(word);
    }

    // ---- 2 feasts

    int feast(int rule, int a, int b, int c, int rank) {
        return tell(x -> x.feast(rule, a, b, c, rank));
    }

    int feastDay(int feast, int year) {
        return used().feastDay(feast, year);
    }

    int moved(int feast, int year) {
        return used().moved(feast, year);
    }

    int movable(int style, int year) {
        return used().movable(style, year);
    }

    int feastOn(int n, int k) {
        return used().feastOn(n, k);
    }

    // ---- 3 moons

    int age(int n) {
        return used().age(n);
    }

    int newMoon(int k) {
        return used().newMoon(k);
    }

    double estimate(int n) {
        return used().estimate(n);
    }

    int light(int n) {
        return used().light(n);
    }

    // ---- 4 parishes

    int parish(int weekly, boolean bridges) {
        return tell(x -> x.parish(weekly, bridges));
    }

    int rule(int parish, int feast, int ahead, int behind) {
        return tell(x -> x.rule(parish, feast, ahead, behind));
    }

    int isOff(int parish, int n) {
        return used().isOff(parish, n);
    }

    int worked(int parish, int from, int to) {
        return used().worked(parish, from, to);
    }

    int nextOff(int parish, int n) {
        return used().nextOff(parish, n);
    }

    int inRow(int parish, int n) {
        return used().inRow(parish, n);
    }

    // ---- 5 pages, books

    int page(int parish, int calendar, int year, int month) {
        return tell(x -> x.page(parish, calendar, year, month));
    }

    int sign(int line, int i) {
        return used().sign(line, i);
    }

    int book(int parish, int year) {
        return tell(x -> x.book(parish, year));
    }

    int load(int v, int n) {
        return tell(x -> x.load(v, n));
    }

    int byteAt(int i) {
        return used().byteAt(i);
    }

    int spoil(int i, int mask) {
        return tell(x -> x.spoil(i, mask));
    }

    int wipe() {
        return tell(AlmanacHouse::wipe);
    }

    int verify() {
        return used().verify();
    }

    // ---- what was laid down

    int undo() {
        return tell(AlmanacHouse::undo);
    }

    int count(int what) {
        return used().count(what);
    }
}
