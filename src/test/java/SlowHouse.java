import java.util.ArrayDeque;
import java.util.ArrayList;
import java.util.Arrays;
import java.util.Deque;
import java.util.HashMap;
import java.util.HashSet;
import java.util.List;
import java.util.Map;
import java.util.Set;

/**
 * The document a second time, as literally and slowly as can be: MONTHS are
 * listed one by one, days are tried one by one, undo() goes back to copies.
 * FuzzTest holds AlmanacHouse against it.
 */
final class SlowHouse {
    static final int BAD = -1, NONE = -2, OUTSIDE = -3, FULL = -4;
    static final int LAST = 1500000;

    /** A MONTH: YEAR, number, first day, days. */
    record Month(int year, int month, int first, int length) { }

    /** A calendar as the list of all its MONTHS. */
    static final class Listed {
        final List<Month> months;
        private final int[] firsts;
        private final Map<Integer, Integer> firstOfYear = new HashMap<>();
        private final Map<Integer, Integer> monthsOfYear = new HashMap<>();

        Listed(List<Month> months) {
            this.months = months;
            firsts = new int[months.size()];
            for (int i = 0; i < firsts.length; i++) {
                Month m = months.get(i);
                firsts[i] = m.first;
                firstOfYear.putIfAbsent(m.year, i);
                monthsOfYear.merge(m.year, 1, Integer::sum);
            }
        }

        boolean hasYear(int year) {
            return firstOfYear.containsKey(year);
        }

        int monthsIn(int year) {
            return monthsOfYear.get(year);
        }

        Month find(int year, int month) {
            if (!hasYear(year) || month < 1 || month > monthsIn(year)) {
                return null;
            }
            return months.get(firstOfYear.get(year) + month - 1);
        }

        /** The index of the MONTH that has day n, or -1. */
        int indexOf(int n) {
            int at = Arrays.binarySearch(firsts, n);
            int index = at >= 0 ? at : -at - 2;
            return index >= 0 && n < firsts[index] + months.get(index).length ? index : -1;
        }

        int plusYears(int n, int k) {
            Month own = months.get(indexOf(n));
            if (!hasYear(own.year + k)) {
                return OUTSIDE;
            }
            Month to = find(own.year + k, Math.min(own.month, monthsIn(own.year + k)));
            return day(to, n - own.first);
        }

        int plusMonths(int n, int k) {
            int index = indexOf(n);
            if (index + k < 0 || index + k >= months.size()) {
                return OUTSIDE;
            }
            return day(months.get(index + k), n - months.get(index).first);
        }

        private static int day(Month to, int offset) {
            int n = to.first + Math.min(offset, to.length - 1);
            return n < 0 || n > LAST ? OUTSIDE : n;
        }
    }

    private static final Listed[] CALENDARS = new Listed[7];

    static {
        CALENDARS[0] = sun(-60, true);
        CALENDARS[1] = sun(-62, false);
        CALENDARS[2] = thirteen();
        CALENDARS[3] = tabled();
        CALENDARS[4] = counted();
        CALENDARS[5] = weeks();
        CALENDARS[6] = round();
    }

    private static Listed sun(int start, boolean hundreds) {
        int[] lengths = {31, 28, 31, 30, 31, 30, 31, 31, 30, 31, 30, 31};
        List<Month> list = new ArrayList<>();
        int at = start;
        for (int y = 0; y <= 5000; y++) {
            boolean leap = y % 4 == 0;
            if (hundreds && y % 100 == 0 && y % 400 != 0) {
                leap = false;
            }
            for (int m = 1; m <= 12; m++) {
                int days = lengths[m - 1] + (m == 2 && leap ? 1 : 0);
                list.add(new Month(y, m, at, days));
                at += days;
            }
        }
        return new Listed(list);
    }

    private static Listed thirteen() {
        List<Month> list = new ArrayList<>();
        int at = 0;
        for (int y = 1; y <= 5000; y++) {
            for (int m = 1; m <= 13; m++) {
                int days = m < 13 ? 30 : y % 4 == 3 ? 6 : 5;
                list.add(new Month(y, m, at, days));
                at += days;
            }
        }
        return new Listed(list);
    }

    private static Listed tabled() {
        Set<Integer> more = Set.of(2, 5, 7, 10, 13, 16, 18, 21, 24, 26, 29);
        List<Month> list = new ArrayList<>();
        int at = 0;
        for (int y = 1; y <= 5000; y++) {
            for (int m = 1; m <= 12; m++) {
                int days = m % 2 == 1 || m == 12 && more.contains(y % 30) ? 30 : 29;
                list.add(new Month(y, m, at, days));
                at += days;
            }
        }
        return new Listed(list);
    }

    private static long e(long y) {
        long m = (235 * y - 234) / 19;
        long that = 29 * m + (12084 + 13753 * m) / 25920;
        return 3 * (that + 1) % 7 < 3 ? that + 1 : that;
    }

    private static int countedStart(int y) {
        int k = 0;
        if (e(y + 1) - e(y) == 356) {
            k = 2;
        } else if (y > 1 && e(y) - e(y - 1) == 382) {
            k = 1;
        }
        return (int) (e(y) + k);
    }

    private static Listed counted() {
        int[] plain = {30, 29, 30, 29, 30, 29, 30, 29, 30, 29, 30, 29};
        int[] longer = {30, 29, 30, 29, 30, 30, 29, 30, 29, 30, 29, 30, 29};
        List<Month> list = new ArrayList<>();
        int at = 0;
        for (int y = 1; y <= 5000; y++) {
            int[] lengths = ((7 * y + 1) % 19 < 7 ? longer : plain).clone();
            int days = countedStart(y + 1) - countedStart(y);
            if (days == 355 || days == 385) {
                lengths[1] = 30;
            }
            if (days == 353 || days == 383) {
                lengths[2] = 29;
            }
            if (at != countedStart(y) || Arrays.stream(lengths).sum() != days) {
                throw new IllegalStateException("the counted YEAR " + y + " does not close");
            }
            for (int m = 1; m <= lengths.length; m++) {
                list.add(new Month(y, m, at, lengths[m - 1]));
                at += lengths[m - 1];
            }
        }
        return new Listed(list);
    }

    private static Listed weeks() {
        Listed sun = CALENDARS[0];
        int end = sun.find(5000, 12).first + 31;
        List<Month> list = new ArrayList<>();
        int year = -1;
        int month = 0;
        for (int monday = -70; monday + 3 < end; monday += 7) {
            int index = sun.indexOf(monday + 3);
            if (index < 0) {
                continue;
            }
            int of = sun.months.get(index).year;
            month = of == year ? month + 1 : 1;
            year = of;
            list.add(new Month(year, month, monday, 7));
        }
        return new Listed(list);
    }

    private static Listed round() {
        List<Month> list = new ArrayList<>();
        int at = 0;
        for (int y = 0; y <= 5000; y++) {
            for (int m = 1; m <= 18; m++) {
                list.add(new Month(y, m, at, 20));
                at += 20;
            }
        }
        return new Listed(list);
    }

    // what is laid down; the lists are replaced, never changed, so a copy is a reference

    record Word(int calendar, int month, long word) { }

    record Feast(int rule, int a, int b, int c, int rank) { }

    record Parish(int weekly, boolean bridges) { }

    record Rule(int parish, int feast, int ahead, int behind) { }

    record Laid(List<int[]> rows, List<Word> words, List<Feast> feasts, List<Parish> parishes, List<Rule> rules) { }

    private Laid laid = new Laid(List.of(), List.of(), List.of(), List.of(), List.of());
    private final Deque<Laid> before = new ArrayDeque<>();
    private final char[][] page = new char[28][40];
    private final List<Integer> tape = new ArrayList<>();
    private Listed town = new Listed(List.of());
    private Map<Integer, int[][]> placings = new HashMap<>();

    SlowHouse() {
        clearPage();
    }

    private void clearPage() {
        for (char[] line : page) {
            Arrays.fill(line, ' ');
        }
    }

    private static <T> List<T> with(List<T> list, T more) {
        List<T> copy = new ArrayList<>(list);
        copy.add(more);
        return copy;
    }

    private void become(Laid next) {
        before.addLast(laid);
        if (before.size() > 100) {
            before.removeFirst();
        }
        stand(next);
    }

    private void stand(Laid next) {
        laid = next;
        placings = new HashMap<>();
        List<Month> list = new ArrayList<>();
        for (int i = 0; i < laid.rows.size(); i++) {
            list.add(new Month(i / 10 + 1, i % 10 + 1, laid.rows.get(i)[0], laid.rows.get(i)[1]));
        }
        town = new Listed(list);
    }

    private Listed cal(int calendar) {
        return calendar == 7 ? town : CALENDARS[calendar];
    }

    private static boolean noCalendar(int calendar) {
        return calendar < 0 || calendar > 7;
    }

    private static boolean noDay(int n) {
        return n < 0 || n > LAST;
    }

    private static boolean noYear(int year) {
        return year < 0 || year > 5000;
    }

    int toDay(int calendar, int year, int month, int day) {
        if (noCalendar(calendar)) {
            return BAD;
        }
        Month m = cal(calendar).find(year, month);
        if (m == null || day < 1 || day > m.length) {
            return NONE;
        }
        int n = m.first + day - 1;
        return noDay(n) ? OUTSIDE : n;
    }

    int fromDay(int calendar, int n, int what) {
        if (noCalendar(calendar) || what < 0 || what > 4) {
            return BAD;
        }
        if (noDay(n)) {
            return OUTSIDE;
        }
        int index = cal(calendar).indexOf(n);
        if (index < 0) {
            return NONE;
        }
        Month m = cal(calendar).months.get(index);
        if (what == 0) {
            return m.year;
        }
        if (what == 1) {
            return m.month;
        }
        if (what == 2) {
            return n - m.first + 1;
        }
        if (what == 3) {
            return calendar == 6 ? (n + 7) % 20 : calendar == 7 ? (n - laid.rows.get(0)[0]) % 10 : n % 7;
        }
        return calendar == 6 ? (n + 3) % 13 + 1 : 0;
    }

    int monthLength(int calendar, int year, int month) {
        if (noCalendar(calendar)) {
            return BAD;
        }
        Month m = cal(calendar).find(year, month);
        return m == null ? NONE : m.length;
    }

    int yearLength(int calendar, int year) {
        int count = months(calendar, year);
        if (count < 0) {
            return count;
        }
        int sum = 0;
        for (int m = 1; m <= count; m++) {
            sum += cal(calendar).find(year, m).length;
        }
        return sum;
    }

    int months(int calendar, int year) {
        if (noCalendar(calendar)) {
            return BAD;
        }
        return cal(calendar).hasYear(year) ? cal(calendar).monthsIn(year) : NONE;
    }

    int addMonths(int calendar, int n, int k) {
        if (noCalendar(calendar) || k < -60000 || k > 60000) {
            return BAD;
        }
        if (noDay(n)) {
            return OUTSIDE;
        }
        return cal(calendar).indexOf(n) < 0 ? NONE : cal(calendar).plusMonths(n, k);
    }

    int addYears(int calendar, int n, int k) {
        if (noCalendar(calendar) || k < -5000 || k > 5000) {
            return BAD;
        }
        if (noDay(n)) {
            return OUTSIDE;
        }
        return cal(calendar).indexOf(n) < 0 ? NONE : cal(calendar).plusYears(n, k);
    }

    int difference(int calendar, int a, int b, int what) {
        if (noCalendar(calendar) || what < 0 || what > 2 || b < a) {
            return BAD;
        }
        if (noDay(a) || noDay(b)) {
            return OUTSIDE;
        }
        Listed c = cal(calendar);
        if (c.indexOf(a) < 0) {
            return NONE;
        }
        int years = 0;
        for (;;) {
            int next = c.plusYears(a, years + 1);
            if (next < 0 || next > b) {
                break;
            }
            years++;
        }
        int base = c.plusYears(a, years);
        int months = 0;
        for (;;) {
            int next = c.plusMonths(base, months + 1);
            if (next < 0 || next > b) {
                break;
            }
            months++;
        }
        return what == 0 ? years : what == 1 ? months : b - c.plusMonths(base, months);
    }

    int birthday(int calendar, int n, int year) {
        if (calendar < 0 || calendar > 6) {
            return BAD;
        }
        if (noYear(year)) {
            return NONE;
        }
        if (noDay(n)) {
            return OUTSIDE;
        }
        int best = Integer.MAX_VALUE;
        for (int k = -5000; k <= 5000; k++) {
            int day = cal(calendar).plusYears(n, k);
            if (day >= 0 && day < best && fromDay(0, day, 0) == year) {
                best = day;
            }
        }
        return best == Integer.MAX_VALUE ? NONE : best;
    }

    int row(int first, int length) {
        if (length < 1 || length > 200) {
            return BAD;
        }
        if (!laid.rows.isEmpty()) {
            int[] last = laid.rows.get(laid.rows.size() - 1);
            if (first != last[0] + last[1]) {
                return BAD;
            }
        }
        for (long n = first; n < (long) first + length; n++) {
            if (n < 0 || n > LAST) {
                return OUTSIDE;
            }
        }
        if (laid.rows.size() == 500) {
            return FULL;
        }
        become(new Laid(with(laid.rows, new int[] {first, length}), laid.words, laid.feasts, laid.parishes, laid.rules));
        return laid.rows.size();
    }

    int name(int calendar, int month, long word) {
        if (noCalendar(calendar) || month < 1 || month > 53 || word == 0) {
            return BAD;
        }
        int of = 0;
        for (Word w : laid.words) {
            if (w.calendar == calendar && w.word == word) {
                return BAD;
            }
            if (w.calendar == calendar && w.month == month) {
                of++;
            }
        }
        if (of == 3 || laid.words.size() == 300) {
            return FULL;
        }
        become(new Laid(laid.rows, with(laid.words, new Word(calendar, month, word)), laid.feasts, laid.parishes, laid.rules));
        return of + 1;
    }

    int monthNamed(int calendar, long word) {
        if (noCalendar(calendar)) {
            return BAD;
        }
        for (Word w : laid.words) {
            if (w.calendar == calendar && w.word == word) {
                return w.month;
            }
        }
        return NONE;
    }

    int spellings(long word) {
        Set<Integer> found = new HashSet<>();
        for (Word w : laid.words) {
            if (w.word == word) {
                found.add(w.calendar);
            }
        }
        return found.size();
    }

    int feast(int rule, int a, int b, int c, int rank) {
        boolean right = rule >= 0 && rule <= 3 && rank >= 0 && rank <= 9;
        if (rule == 0) {
            right &= a >= 1 && a <= 53 && b >= 1 && b <= 200 && c >= 0 && c <= 6;
        }
        if (rule == 1) {
            right &= a >= 1 && a <= 12 && b >= 0 && b <= 6 && (c == -1 || c >= 1 && c <= 5);
        }
        if (rule == 2) {
            right &= a >= -60 && a <= 100 && (b == 0 || b == 1);
        }
        if (rule == 3) {
            right &= a >= 0 && a < laid.feasts.size() && b >= -40 && b <= 40;
        }
        if (!right) {
            return BAD;
        }
        if (laid.feasts.size() == 60) {
            return FULL;
        }
        become(new Laid(laid.rows, laid.words, with(laid.feasts, new Feast(rule, a, b, c, rank)), laid.parishes, laid.rules));
        return laid.feasts.size() - 1;
    }

    private int anyMovable(int style, int y) {
        int g = y % 19;
        int l;
        if (style == 1) {
            int e = (19 * g + 15) % 30;
            int j = (y + y / 4 + e) % 7;
            l = e - j;
        } else {
            int c = y / 100;
            int h = Math.floorMod(c - c / 4 - (8 * c + 13) / 25 + 19 * g + 15, 30);
            int i = h - (h / 28) * (1 - (29 / (h + 1)) * ((21 - g) / 11));
            int j = Math.floorMod(y + y / 4 + i + 2 - c + c / 4, 7);
            l = i - j;
        }
        int month = 3 + (l + 40) / 44;
        int day = l + 28 - 31 * ((3 + (l + 40) / 44) / 4);
        return CALENDARS[style].find(y, month).first + day - 1;
    }

    /** Ahead of all moving; NONE if there is none. */
    private int ownDay(int feast, int year) {
        Feast f = laid.feasts.get(feast);
        int n = NONE;
        if (f.rule == 0) {
            int first = CALENDARS[0].find(year, 1).first;
            int end = CALENDARS[0].find(year, 12).first + 31;
            for (int day = Math.max(0, first); day < end && day <= LAST; day++) {
                int index = CALENDARS[f.c].indexOf(day);
                Month m = CALENDARS[f.c].months.get(index);
                if (m.month == f.a && day - m.first + 1 == f.b) {
                    n = day;
                    break;
                }
            }
        } else if (f.rule == 1) {
            List<Integer> all = new ArrayList<>();
            Month m = CALENDARS[0].find(year, f.a);
            for (int day = m.first; day < m.first + m.length; day++) {
                if (Math.floorMod(day, 7) == f.b) {
                    all.add(day);
                }
            }
            int at = f.c == -1 ? all.size() - 1 : f.c - 1;
            n = at < all.size() ? all.get(at) : NONE;
        } else if (f.rule == 2) {
            n = anyMovable(f.b, year) + f.a;
        } else {
            int other = ownDay(f.a, year);
            n = other == NONE ? NONE : other + f.b;
        }
        return noDay(n) ? NONE : n;
    }

    /** [0] the own days, [1] the days at which they are PLACED. */
    private int[][] placing(int year) {
        return placings.computeIfAbsent(year, this::placeAll);
    }

    private int[][] placeAll(int year) {
        int count = laid.feasts.size();
        int[][] days = new int[2][count];
        Set<Integer> taken = new HashSet<>();
        for (int i = 0; i < count; i++) {
            days[0][i] = ownDay(i, year);
            days[1][i] = days[0][i];
        }
        for (int rank = 9; rank >= 1; rank--) {
            for (int i = 0; i < count; i++) {
                if (laid.feasts.get(i).rank == rank && days[0][i] != NONE) {
                    int n = days[0][i];
                    while (taken.contains(n)) {
                        n++;
                    }
                    if (n > LAST) {
                        days[1][i] = NONE;
                    } else {
                        days[1][i] = n;
                        taken.add(n);
                    }
                }
            }
        }
        return days;
    }

    int feastDay(int feast, int year) {
        if (feast < 0 || feast >= laid.feasts.size()) {
            return BAD;
        }
        return noYear(year) ? NONE : placing(year)[1][feast];
    }

    int moved(int feast, int year) {
        int day = feastDay(feast, year);
        return day < 0 ? day : day - placing(year)[0][feast];
    }

    int movable(int style, int year) {
        if (style < 0 || style > 1) {
            return BAD;
        }
        if (noYear(year)) {
            return NONE;
        }
        int n = anyMovable(style, year);
        return noDay(n) ? OUTSIDE : n;
    }

    private List<Integer> feastsOn(int n) {
        int[] days = placing(fromDay(0, n, 0))[1];
        List<Integer> list = new ArrayList<>();
        for (int i = 0; i < days.length; i++) {
            if (days[i] == n) {
                list.add(i);
            }
        }
        list.sort((x, y) -> laid.feasts.get(y).rank - laid.feasts.get(x).rank);
        return list;
    }

    int feastOn(int n, int k) {
        if (noDay(n)) {
            return OUTSIDE;
        }
        List<Integer> list = feastsOn(n);
        return k < 0 || k >= list.size() ? NONE : list.get(k);
    }

    int age(int n) {
        if (noDay(n)) {
            return OUTSIDE;
        }
        long now = n * 25920L;
        long latest = 5604 - 765433;
        latest += (now - latest) / 765433 * 765433;
        return (int) (now - latest);
    }

    int newMoon(int k) {
        if (k < 0) {
            return BAD;
        }
        long day = (5604 + k * 765433L) / 25920;
        return day > LAST ? OUTSIDE : (int) day;
    }

    private static double wave(double u) {
        double t = u - Math.floor(u);
        double r = 2.0 * t - 1.0;
        double q = r * r;
        return r * (q - 1.0) * (3.140625 - q * (2.015625 - q * 0.453125));
    }

    double estimate(int n) {
        if (noDay(n)) {
            return -1.0;
        }
        double e = age(n) / 25920.0;
        e += 0.41 * wave(n * 0.0362916 + 0.3);
        e += 0.174 * wave(n * 0.0027379 + 0.05);
        e += 0.018 * wave(n * 0.0677 + 0.7);
        e += 0.0115 * wave(n * 0.0734 + 0.11);
        e += -0.0041 * wave(n * 0.0314 + 0.5);
        return e;
    }

    int light(int n) {
        if (noDay(n)) {
            return OUTSIDE;
        }
        double v = Math.rint(500.0 - 500.0 * wave(estimate(n) / 29.530594 + 0.25));
        return (int) Math.max(0.0, Math.min(1000.0, v));
    }

    int parish(int weekly, boolean bridges) {
        if (weekly < 0 || weekly > 127) {
            return BAD;
        }
        if (laid.parishes.size() == 8) {
            return FULL;
        }
        become(new Laid(laid.rows, laid.words, laid.feasts, with(laid.parishes, new Parish(weekly, bridges)), laid.rules));
        return laid.parishes.size() - 1;
    }

    private boolean noParish(int parish) {
        return parish < 0 || parish >= laid.parishes.size();
    }

    int rule(int parish, int feast, int ahead, int behind) {
        if (noParish(parish) || feast < 0 || feast >= laid.feasts.size()) {
            return BAD;
        }
        if (ahead < 0 || ahead > 10 || behind < 0 || behind > 10) {
            return BAD;
        }
        if (laid.rules.size() == 48) {
            return FULL;
        }
        become(new Laid(laid.rows, laid.words, laid.feasts, laid.parishes,
            with(laid.rules, new Rule(parish, feast, ahead, behind))));
        return (int) laid.rules.stream().filter(r -> r.parish == parish).count();
    }

    private boolean free(int parish, int n) {
        if (noDay(n)) {
            return false;
        }
        if ((laid.parishes.get(parish).weekly & 1 << n % 7) != 0) {
            return true;
        }
        int year = fromDay(0, n, 0);
        for (Rule r : laid.rules) {
            if (r.parish == parish) {
                for (int y = year - 1; y <= year + 1; y++) {
                    if (!noYear(y)) {
                        int p = placing(y)[1][r.feast];
                        if (p >= 0 && n >= p - r.ahead && n <= p + r.behind) {
                            return true;
                        }
                    }
                }
            }
        }
        return false;
    }

    private boolean off(int parish, int n) {
        return free(parish, n) || laid.parishes.get(parish).bridges && free(parish, n - 1) && free(parish, n + 1);
    }

    int isOff(int parish, int n) {
        if (noParish(parish)) {
            return BAD;
        }
        return noDay(n) ? OUTSIDE : off(parish, n) ? 1 : 0;
    }

    int worked(int parish, int from, int to) {
        if (noParish(parish) || to < from || (long) to - from + 1 > 800) {
            return BAD;
        }
        if (noDay(from) || noDay(to)) {
            return OUTSIDE;
        }
        int days = 0;
        for (int n = from; n <= to; n++) {
            days += off(parish, n) ? 0 : 1;
        }
        return days;
    }

    int nextOff(int parish, int n) {
        if (noParish(parish)) {
            return BAD;
        }
        if (noDay(n)) {
            return OUTSIDE;
        }
        for (int i = 1; i <= 400; i++) {
            if (!noDay(n + i) && off(parish, n + i)) {
                return n + i;
            }
        }
        return NONE;
    }

    int inRow(int parish, int n) {
        if (noParish(parish)) {
            return BAD;
        }
        if (noDay(n)) {
            return OUTSIDE;
        }
        if (!off(parish, n)) {
            return 0;
        }
        int days = 1;
        for (int i = 1; i <= 50 && !noDay(n - i) && off(parish, n - i); i++) {
            days++;
        }
        for (int i = 1; i <= 50 && !noDay(n + i) && off(parish, n + i); i++) {
            days++;
        }
        return days;
    }

    private void write(int line, int at, String text) {
        for (int i = 0; i < text.length() && line < 28; i++) {
            page[line][at + i] = text.charAt(i);
        }
    }

    private boolean newMoonOn(int n) {
        int guess = (int) (n * 25920L / 765433);
        for (int k = Math.max(0, guess - 2); k <= guess + 2; k++) {
            if (newMoon(k) == n) {
                return true;
            }
        }
        return false;
    }

    int page(int parish, int calendar, int year, int month) {
        if (noParish(parish) || noCalendar(calendar)) {
            return BAD;
        }
        Month m = cal(calendar).find(year, month);
        if (m == null) {
            return NONE;
        }
        for (int d = 0; d < m.length; d++) {
            if (noDay(m.first + d)) {
                return OUTSIDE;
            }
        }
        clearPage();
        write(0, 0, year + " " + month);
        write(1, 0, " M  T  W  T  F  S  S");
        int line = 2;
        for (int d = 0; d < m.length; d++) {
            int n = m.first + d;
            int w = n % 7;
            if (d > 0 && w == 0) {
                line++;
            }
            write(line, 3 * w, String.format("%2d", (d + 1) % 100));
            if (!feastsOn(n).isEmpty()) {
                write(line, 3 * w + 2, "*");
            } else if (off(parish, n)) {
                write(line, 3 * w + 2, ".");
            }
            if (newMoonOn(n)) {
                write(line, 23 + w, "o");
            }
        }
        line++;
        for (int d = 0; d < m.length; d++) {
            for (int f : feastsOn(m.first + d)) {
                write(line, 0, String.format("%2d", (d + 1) % 100));
                write(line, 3, String.valueOf(f));
                write(line, 6, String.valueOf(laid.feasts.get(f).rank));
                line++;
            }
        }
        return Math.min(28, line);
    }

    int sign(int line, int i) {
        return line < 0 || line > 27 || i < 0 || i > 39 ? BAD : page[line][i];
    }

    private static int sum(List<Integer> bytes) {
        int s = 1;
        for (int it : bytes) {
            int x = s ^ it;
            s = (x << 9 | x >>> 23) * 0x01000193;
        }
        return s;
    }

    int book(int parish, int year) {
        if (noParish(parish)) {
            return BAD;
        }
        if (noYear(year)) {
            return NONE;
        }
        int first = CALENDARS[0].find(year, 1).first;
        int days = yearLength(0, year);
        if (noDay(first) || noDay(first + days - 1)) {
            return OUTSIDE;
        }
        List<Integer> bytes = new ArrayList<>(List.of(year / 256, year % 256, days / 256, days % 256));
        for (int n = first; n < first + days; n++) {
            bytes.add(n % 7 + (off(parish, n) ? 8 : 0) + Math.min(15, feastsOn(n).size()) * 16);
        }
        int s = sum(bytes);
        bytes.addAll(List.of(s >>> 24, s >>> 16 & 255, s >>> 8 & 255, s & 255));
        if (tape.size() + bytes.size() > 1200) {
            return FULL;
        }
        tape.addAll(bytes);
        return tape.size();
    }

    int load(int v, int n) {
        if (n < 1 || n > 4) {
            return BAD;
        }
        if (tape.size() + n > 1200) {
            return FULL;
        }
        for (int i = n - 1; i >= 0; i--) {
            tape.add(v >>> 8 * i & 255);
        }
        return tape.size();
    }

    int byteAt(int i) {
        return i < 0 || i >= tape.size() ? NONE : tape.get(i);
    }

    int spoil(int i, int mask) {
        if (i < 0 || i >= tape.size()) {
            return NONE;
        }
        tape.set(i, tape.get(i) ^ mask & 255);
        return tape.get(i);
    }

    int wipe() {
        int had = tape.size();
        tape.clear();
        return had;
    }

    int verify() {
        int books = 0;
        List<Integer> left = new ArrayList<>(tape);
        while (!left.isEmpty()) {
            if (left.size() < 8) {
                return NONE;
            }
            int end = 4 + left.get(2) * 256 + left.get(3);
            if (left.size() < end + 4) {
                return NONE;
            }
            int s = sum(left.subList(0, end));
            if (!left.subList(end, end + 4).equals(List.of(s >>> 24, s >>> 16 & 255, s >>> 8 & 255, s & 255))) {
                return NONE;
            }
            left = left.subList(end + 4, left.size());
            books++;
        }
        return books == 0 ? NONE : books;
    }

    int undo() {
        if (before.isEmpty()) {
            return NONE;
        }
        stand(before.removeLast());
        return before.size();
    }

    int count(int what) {
        switch (what) {
            case 0:
                return laid.rows.size();
            case 1:
                return laid.words.size();
            case 2:
                return laid.feasts.size();
            case 3:
                return laid.parishes.size();
            case 4:
                return laid.rules.size();
            case 5:
                return before.size();
            case 6:
                return tape.size();
            default:
                return BAD;
        }
    }
}
