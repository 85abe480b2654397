import java.util.Arrays;

/**
 * An almanac house: one row of days and eight calendars over it, with feasts,
 * the moon, days off of parishes, pages and books. The document's numbered
 * promises say what each call answers.
 */
public final class AlmanacHouse {
    public static final int BAD = -1, NONE = -2, OUTSIDE = -3, FULL = -4;

    private static final int LAST_DAY = 1500000;
    private static final int LAST_YEAR = 5000;
    private static final int CALENDARS = 8;
    private static final int SUN = 0, OLD_SUN = 1, THIRTEEN = 2, TABLED_MOON = 3;
    private static final int COUNTED_MOON = 4, WEEKS = 5, ROUND = 6, TOWN = 7;
    private static final int LONGEST_ROW = 200;
    private static final int HIGHEST_MONTH = 53;
    private static final int MOST_MONTHS_ADDED = 60000;
    private static final int MOST_YEARS_ADDED = 5000;
    private static final int LONGEST_WORK = 800;
    private static final int LONGEST_SEARCH = 400;
    private static final int ROW_REACH = 50;

    private static final int A_ROW = 0, A_WORD = 1, A_FEAST = 2, A_PARISH = 3, A_RULE = 4;

    private final Calendars calendars;
    private final Words words;
    private final Feasts feasts;
    private final Parishes parishes;
    private final Page page;
    private final Tape tape;
    private final Deeds deeds;

    public AlmanacHouse() {
        calendars = new Calendars();
        words = new Words();
        feasts = new Feasts(calendars);
        parishes = new Parishes(calendars, feasts);
        page = new Page();
        tape = new Tape();
        deeds = new Deeds();
    }

    // ---- 1 calendars

    public int toDay(int calendar, int year, int month, int day) {
        if (!isCalendar(calendar)) {
            return BAD;
        }
        if (!calendars.hasMonth(calendar, year, month)) {
            return NONE;
        }
        if (day < 1 || day > calendars.daysInMonth(calendar, year, month)) {
            return NONE;
        }
        return dayOrOutside(calendars.monthStart(calendar, year, month) + day - 1);
    }

    public int fromDay(int calendar, int n, int what) {
        if (!isCalendar(calendar) || what < 0 || what > 4) {
            return BAD;
        }
        if (!isDay(n)) {
            return OUTSIDE;
        }
        if (!calendars.hasDate(calendar, n)) {
            return NONE;
        }
        switch (what) {
            case 0:
                return calendars.yearOf(calendar, n);
            case 1:
                return calendars.monthOf(calendar, n);
            case 2:
                return calendars.dayOf(calendar, n);
            case 3:
                return calendars.weekdayOf(calendar, n);
            default:
                return calendar == ROUND ? (n + 3) % 13 + 1 : 0;
        }
    }

    public int monthLength(int calendar, int year, int month) {
        if (!isCalendar(calendar)) {
            return BAD;
        }
        if (!calendars.hasMonth(calendar, year, month)) {
            return NONE;
        }
        return calendars.daysInMonth(calendar, year, month);
    }

    public int yearLength(int calendar, int year) {
        if (!isCalendar(calendar)) {
            return BAD;
        }
        if (!calendars.hasYear(calendar, year)) {
            return NONE;
        }
        return calendars.daysInYear(calendar, year);
    }

    public int months(int calendar, int year) {
        if (!isCalendar(calendar)) {
            return BAD;
        }
        if (!calendars.hasYear(calendar, year)) {
            return NONE;
        }
        return calendars.monthsIn(calendar, year);
    }

    public int addMonths(int calendar, int n, int k) {
        if (!isCalendar(calendar) || k < -MOST_MONTHS_ADDED || k > MOST_MONTHS_ADDED) {
            return BAD;
        }
        if (!isDay(n)) {
            return OUTSIDE;
        }
        if (!calendars.hasDate(calendar, n)) {
            return NONE;
        }
        int index = calendars.monthIndex(calendar, n) + k;
        if (index < 0 || index >= calendars.monthsInAll(calendar)) {
            return OUTSIDE;
        }
        return dayOrOutside(calendars.dayInMonth(calendar, index, calendars.dayOf(calendar, n)));
    }

    public int addYears(int calendar, int n, int k) {
        if (!isCalendar(calendar) || k < -MOST_YEARS_ADDED || k > MOST_YEARS_ADDED) {
            return BAD;
        }
        if (!isDay(n)) {
            return OUTSIDE;
        }
        if (!calendars.hasDate(calendar, n)) {
            return NONE;
        }
        int year = calendars.yearOf(calendar, n) + k;
        if (!calendars.hasYear(calendar, year)) {
            return OUTSIDE;
        }
        return dayOrOutside(calendars.anniversary(calendar, n, year));
    }

    public int difference(int calendar, int a, int b, int what) {
        if (!isCalendar(calendar) || what < 0 || what > 2 || b < a) {
            return BAD;
        }
        if (!isDay(a) || !isDay(b)) {
            return OUTSIDE;
        }
        if (!calendars.hasDate(calendar, a)) {
            return NONE;
        }
        int year = calendars.yearOf(calendar, a);
        int years = wholeYears(calendar, a, b);
        int base = calendars.anniversary(calendar, a, year + years);
        int months = wholeMonths(calendar, base, b);
        switch (what) {
            case 0:
                return years;
            case 1:
                return months;
            default:
                int index = calendars.monthIndex(calendar, base) + months;
                return b - calendars.dayInMonth(calendar, index, calendars.dayOf(calendar, base));
        }
    }

    public int birthday(int calendar, int n, int year) {
        if (!isCalendar(calendar) || calendar == TOWN) {
            return BAD;
        }
        if (!calendars.hasYear(SUN, year)) {
            return NONE;
        }
        if (!isDay(n)) {
            return OUTSIDE;
        }
        int first = calendars.firstDayIn(year);
        int last = calendars.lastDayIn(year);
        if (first > last) {
            return NONE;
        }
        int lastOwn = calendars.yearOf(calendar, last);
        for (int own = calendars.yearOf(calendar, first); own <= lastOwn; own++) {
            int day = calendars.anniversary(calendar, n, own);
            if (day >= first && day <= last) {
                return day;
            }
        }
        return NONE;
    }

    public int row(int first, int length) {
        if (length < 1 || length > LONGEST_ROW || !calendars.mayFollow(first)) {
            return BAD;
        }
        if (first < 0 || first > LAST_DAY - length + 1) {
            return OUTSIDE;
        }
        if (calendars.rowCount >= Calendars.MOST_ROWS) {
            return FULL;
        }
        calendars.addRow(first, length);
        deeds.note(A_ROW);
        return calendars.rowCount;
    }

    public int name(int calendar, int month, long word) {
        if (!isCalendar(calendar) || month < 1 || month > HIGHEST_MONTH || word == 0) {
            return BAD;
        }
        if (words.monthBy(calendar, word) != NONE) {
            return BAD;
        }
        int had = words.countFor(calendar, month);
        if (had >= Words.MOST_A_MONTH || words.count >= Words.MOST) {
            return FULL;
        }
        words.add(calendar, month, word);
        deeds.note(A_WORD);
        return had + 1;
    }

    public int monthNamed(int calendar, long word) {
        return isCalendar(calendar) ? words.monthBy(calendar, word) : BAD;
    }

    public int spellings(long word) {
        int found = 0;
        for (int calendar = 0; calendar < CALENDARS; calendar++) {
            if (words.monthBy(calendar, word) != NONE) {
                found++;
            }
        }
        return found;
    }

    // ---- 2 feasts

    public int feast(int rule, int a, int b, int c, int rank) {
        if (rank < 0 || rank > Feasts.HIGHEST_RANK || !feasts.isRuleRight(rule, a, b, c)) {
            return BAD;
        }
        if (feasts.count >= Feasts.MOST) {
            return FULL;
        }
        feasts.add(rule, a, b, c, rank);
        deeds.note(A_FEAST);
        return feasts.count - 1;
    }

    public int feastDay(int feast, int year) {
        if (!feasts.has(feast)) {
            return BAD;
        }
        if (!calendars.hasYear(SUN, year)) {
            return NONE;
        }
        feasts.place(year);
        return feasts.placedDay(feast);
    }

    public int moved(int feast, int year) {
        if (!feasts.has(feast)) {
            return BAD;
        }
        if (!calendars.hasYear(SUN, year)) {
            return NONE;
        }
        feasts.place(year);
        int day = feasts.placedDay(feast);
        return day == NONE ? NONE : day - feasts.unmovedDay(feast);
    }

    public int movable(int style, int year) {
        if (style != 0 && style != 1) {
            return BAD;
        }
        if (!calendars.hasYear(SUN, year)) {
            return NONE;
        }
        return dayOrOutside(calendars.movableDay(style, year));
    }

    public int feastOn(int n, int k) {
        if (!isDay(n)) {
            return OUTSIDE;
        }
        feasts.place(calendars.yearOf(SUN, n));
        int before = 0;
        for (int i = 0; i < feasts.count; i++) {
            int feast = feasts.inOrder(i);
            if (feasts.placedDay(feast) == n) {
                if (before == k) {
                    return feast;
                }
                before++;
            }
        }
        return NONE;
    }

    // ---- 3 moons

    public int age(int n) {
        return isDay(n) ? Moon.ageOn(n) : OUTSIDE;
    }

    public int newMoon(int k) {
        if (k < 0) {
            return BAD;
        }
        long day = Moon.dayOfNewMoon(k);
        return day > LAST_DAY ? OUTSIDE : (int) day;
    }

    public double estimate(int n) {
        return isDay(n) ? Moon.estimatedAge(n) : -1.0;
    }

    public int light(int n) {
        return isDay(n) ? Moon.lightOn(n) : OUTSIDE;
    }

    // ---- 4 parishes

    public int parish(int weekly, boolean bridges) {
        if (weekly < 0 || weekly > 127) {
            return BAD;
        }
        if (parishes.count >= Parishes.MOST) {
            return FULL;
        }
        parishes.add(weekly, bridges);
        deeds.note(A_PARISH);
        return parishes.count - 1;
    }

    public int rule(int parish, int feast, int ahead, int behind) {
        if (!parishes.has(parish) || !feasts.has(feast)) {
            return BAD;
        }
        if (ahead < 0 || ahead > Parishes.FARTHEST || behind < 0 || behind > Parishes.FARTHEST) {
            return BAD;
        }
        if (parishes.ruleCount >= Parishes.MOST_RULES) {
            return FULL;
        }
        parishes.addRule(parish, feast, ahead, behind);
        deeds.note(A_RULE);
        return parishes.rulesOf(parish);
    }

    public int isOff(int parish, int n) {
        if (!parishes.has(parish)) {
            return BAD;
        }
        if (!isDay(n)) {
            return OUTSIDE;
        }
        parishes.lookAt(parish, n, n);
        return parishes.rests(n) ? 1 : 0;
    }

    public int worked(int parish, int from, int to) {
        if (!parishes.has(parish) || to < from || (long) to - from >= LONGEST_WORK) {
            return BAD;
        }
        if (!isDay(from) || !isDay(to)) {
            return OUTSIDE;
        }
        parishes.lookAt(parish, from, to);
        int days = 0;
        for (int n = from; n <= to; n++) {
            if (!parishes.rests(n)) {
                days++;
            }
        }
        return days;
    }

    public int nextOff(int parish, int n) {
        if (!parishes.has(parish)) {
            return BAD;
        }
        if (!isDay(n)) {
            return OUTSIDE;
        }
        int last = Math.min(LAST_DAY, n + LONGEST_SEARCH);
        parishes.lookAt(parish, n, last);
        for (int next = n + 1; next <= last; next++) {
            if (parishes.rests(next)) {
                return next;
            }
        }
        return NONE;
    }

    public int inRow(int parish, int n) {
        if (!parishes.has(parish)) {
            return BAD;
        }
        if (!isDay(n)) {
            return OUTSIDE;
        }
        int first = Math.max(0, n - ROW_REACH);
        int last = Math.min(LAST_DAY, n + ROW_REACH);
        parishes.lookAt(parish, first, last);
        if (!parishes.rests(n)) {
            return 0;
        }
        int from = n;
        while (from > first && parishes.rests(from - 1)) {
            from--;
        }
        int to = n;
        while (to < last && parishes.rests(to + 1)) {
            to++;
        }
        return to - from + 1;
    }

    // ---- 5 pages, books

    public int page(int parish, int calendar, int year, int month) {
        if (!parishes.has(parish) || !isCalendar(calendar)) {
            return BAD;
        }
        if (!calendars.hasMonth(calendar, year, month)) {
            return NONE;
        }
        int first = calendars.monthStart(calendar, year, month);
        int last = first + calendars.daysInMonth(calendar, year, month) - 1;
        if (!isDay(first) || !isDay(last)) {
            return OUTSIDE;
        }
        parishes.lookAt(parish, first, last);
        page.begin(year, month);
        int line = Page.lineOf(first, last) + 1;
        int lastYear = calendars.yearOf(SUN, last);
        for (int y = calendars.yearOf(SUN, first); y <= lastYear; y++) {
            feasts.place(y);
            int from = Math.max(first, calendars.firstDayIn(y));
            int to = Math.min(last, calendars.lastDayIn(y));
            writeDays(first, from, to);
            line = writeFeasts(first, from, to, line);
        }
        return Math.min(line, Page.LINES);
    }

    public int sign(int line, int i) {
        if (line < 0 || line >= Page.LINES || i < 0 || i >= Page.WIDTH) {
            return BAD;
        }
        return page.signs[line * Page.WIDTH + i];
    }

    public int book(int parish, int year) {
        if (!parishes.has(parish)) {
            return BAD;
        }
        if (!calendars.hasYear(SUN, year)) {
            return NONE;
        }
        int first = calendars.yearStart(SUN, year);
        int days = calendars.daysInYear(SUN, year);
        if (!isDay(first) || !isDay(first + days - 1)) {
            return OUTSIDE;
        }
        if (tape.size + days + Tape.FRAME > Tape.MOST) {
            return FULL;
        }
        parishes.lookAt(parish, first, first + days - 1);
        feasts.place(year);
        int start = tape.size;
        tape.append(year, 2);
        tape.append(days, 2);
        for (int n = first; n < first + days; n++) {
            int off = parishes.rests(n) ? 8 : 0;
            tape.append(n % 7 + off + 16 * Math.min(15, feasts.countOn(n)), 1);
        }
        tape.append(tape.sumOf(start, tape.size), 4);
        return tape.size;
    }

    public int load(int v, int n) {
        if (n < 1 || n > 4) {
            return BAD;
        }
        if (tape.size + n > Tape.MOST) {
            return FULL;
        }
        tape.append(v, n);
        return tape.size;
    }

    public int byteAt(int i) {
        return i < 0 || i >= tape.size ? NONE : tape.bytes[i];
    }

    public int spoil(int i, int mask) {
        if (i < 0 || i >= tape.size) {
            return NONE;
        }
        tape.bytes[i] ^= mask & 255;
        return tape.bytes[i];
    }

    public int wipe() {
        int had = tape.size;
        tape.size = 0;
        return had;
    }

    public int verify() {
        return tape.countBooks();
    }

    // ---- what was laid down

    public int undo() {
        switch (deeds.takeBack()) {
            case A_ROW:
                calendars.dropRow();
                break;
            case A_WORD:
                words.drop();
                break;
            case A_FEAST:
                feasts.drop();
                break;
            case A_PARISH:
                parishes.drop();
                break;
            case A_RULE:
                parishes.dropRule();
                break;
            default:
                return NONE;
        }
        return deeds.left;
    }

    public int count(int what) {
        switch (what) {
            case 0:
                return calendars.rowCount;
            case 1:
                return words.count;
            case 2:
                return feasts.count;
            case 3:
                return parishes.count;
            case 4:
                return parishes.ruleCount;
            case 5:
                return deeds.left;
            case 6:
                return tape.size;
            default:
                return BAD;
        }
    }

    // ---- helpers of the calls

    private static boolean isCalendar(int calendar) {
        return calendar >= 0 && calendar < CALENDARS;
    }

    private static boolean isDay(int n) {
        return n >= 0 && n <= LAST_DAY;
    }

    private static int dayOrOutside(int n) {
        return isDay(n) ? n : OUTSIDE;
    }

    /**
     * Every YEAR ahead of b's own one ends ahead of b, so counting may begin
     * with the last of these instead of with 0.
     */
    private int wholeYears(int calendar, int a, int b) {
        int year = calendars.yearOf(calendar, a);
        int last = calendars.lastYear(calendar);
        int sure = Math.max(year, calendars.yearOf(calendar, b) - 1);
        while (sure < last && calendars.anniversary(calendar, a, sure + 1) <= b) {
            sure++;
        }
        return sure - year;
    }

    private int wholeMonths(int calendar, int base, int b) {
        int day = calendars.dayOf(calendar, base);
        int first = calendars.monthIndex(calendar, base);
        int end = calendars.monthsInAll(calendar);
        int index = first;
        while (index + 1 < end && calendars.dayInMonth(calendar, index + 1, day) <= b) {
            index++;
        }
        return index - first;
    }

    private void writeDays(int first, int from, int to) {
        for (int n = from; n <= to; n++) {
            int line = Page.lineOf(first, n);
            int weekday = n % 7;
            page.putTwoDigits(line, 3 * weekday, n - first + 1);
            if (feasts.countOn(n) > 0) {
                page.put(line, 3 * weekday + 2, '*');
            } else if (parishes.rests(n)) {
                page.put(line, 3 * weekday + 2, '.');
            }
            if (Moon.isNewOn(n)) {
                page.put(line, 23 + weekday, 'o');
            }
        }
    }

    private int writeFeasts(int first, int from, int to, int line) {
        int next = line;
        for (int n = from; n <= to; n++) {
            // most days have none, and counting is quicker than going by the order
            int most = feasts.countOn(n) == 0 ? 0 : feasts.count;
            for (int i = 0; i < most; i++) {
                int feast = feasts.inOrder(i);
                if (feasts.placedDay(feast) == n) {
                    page.putTwoDigits(next, 0, n - first + 1);
                    page.putNumber(next, 3, feast);
                    page.putNumber(next, 6, feasts.rankOf(feast));
                    next++;
                }
            }
        }
        return next;
    }

    /** The eight calendars, each by its number, and the town's ROWS. */
    private static final class Calendars {
        static final int MOST_ROWS = 500;
        private static final int ROWS_A_YEAR = 10;
        private static final int[] SUN_MONTHS = {31, 28, 31, 30, 31, 30, 31, 31, 30, 31, 30, 31};

        private final int[] countedStart = new int[LAST_YEAR + 2];
        private final int[] rowStart = new int[MOST_ROWS + 1];
        int rowCount;

        Calendars() {
            for (int year = 1; year < countedStart.length; year++) {
                countedStart[year] = countedYearStart(year);
            }
        }

        private static int elapsedDays(int year) {
            int moons = (235 * year - 234) / 19;
            int days = 29 * moons + (12084 + 13753 * moons) / 25920;
            return 3 * (days + 1) % 7 < 3 ? days + 1 : days;
        }

        private static int countedYearStart(int year) {
            int days = elapsedDays(year);
            if (elapsedDays(year + 1) - days == 356) {
                return days + 2;
            }
            if (year > 1 && days - elapsedDays(year - 1) == 382) {
                return days + 1;
            }
            return days;
        }

        private static int firstYear(int calendar) {
            return calendar == SUN || calendar == OLD_SUN || calendar == WEEKS || calendar == ROUND ? 0 : 1;
        }

        int lastYear(int calendar) {
            return calendar == TOWN ? (rowCount + ROWS_A_YEAR - 1) / ROWS_A_YEAR : LAST_YEAR;
        }

        boolean hasYear(int calendar, int year) {
            return year >= firstYear(calendar) && year <= lastYear(calendar);
        }

        boolean hasMonth(int calendar, int year, int month) {
            return hasYear(calendar, year) && month >= 1 && month <= monthsIn(calendar, year);
        }

        boolean hasDate(int calendar, int n) {
            return calendar != TOWN || rowCount > 0 && n >= rowStart[0] && n < startOfRow(rowCount);
        }

        /** The day on which a YEAR begins; the YEAR behind the last one has it, too. */
        int yearStart(int calendar, int year) {
            int julian = 365 * year + (year + 3) / 4;
            int gregorian = julian - (year + 99) / 100 + (year + 399) / 400;
            switch (calendar) {
                case SUN:
                    return gregorian - 60;
                case OLD_SUN:
                    return julian - 62;
                case THIRTEEN:
                    return 365 * (year - 1) + year / 4;
                case TABLED_MOON:
                    return 354 * (year - 1) + (11 * year + 3) / 30;
                case COUNTED_MOON:
                    return year < 1 || year >= countedStart.length ? 0 : countedStart[year];
                case WEEKS:
                    // the week of the fourth day has the YEAR's first Thursday
                    int fourth = gregorian - 57;
                    return fourth - (fourth + 63) % 7;
                case ROUND:
                    return 360 * year;
                default:
                    return startOfRow(ROWS_A_YEAR * (year - 1));
            }
        }

        int daysInYear(int calendar, int year) {
            return yearStart(calendar, year + 1) - yearStart(calendar, year);
        }

        int monthsIn(int calendar, int year) {
            switch (calendar) {
                case THIRTEEN:
                    return 13;
                case COUNTED_MOON:
                    return (7 * year + 1) % 19 < 7 ? 13 : 12;
                case WEEKS:
                    return (yearStart(WEEKS, year + 1) - yearStart(WEEKS, year)) / 7;
                case ROUND:
                    return 18;
                case TOWN:
                    return Math.min(ROWS_A_YEAR, rowCount - ROWS_A_YEAR * (year - 1));
                default:
                    return 12;
            }
        }

        /** How many MONTHS lie ahead of a YEAR. */
        private int monthsAhead(int calendar, int year) {
            switch (calendar) {
                case SUN:
                case OLD_SUN:
                    return 12 * year;
                case THIRTEEN:
                    return 13 * (year - 1);
                case TABLED_MOON:
                    return 12 * (year - 1);
                case COUNTED_MOON:
                    return (235 * year - 234) / 19;
                case WEEKS:
                    return (yearStart(WEEKS, year) + 63) / 7;
                case ROUND:
                    return 18 * year;
                default:
                    return Math.min(rowCount, ROWS_A_YEAR * (year - 1));
            }
        }

        int monthsInAll(int calendar) {
            return monthsAhead(calendar, lastYear(calendar) + 1);
        }

        int daysInMonth(int calendar, int year, int month) {
            int yearDays = yearStart(calendar, year + 1) - yearStart(calendar, year);
            return monthDays(calendar, year, month, yearDays);
        }

        /** The YEAR's days are handed in, as they tell which MONTH has a day more or less. */
        private int monthDays(int calendar, int year, int month, int yearDays) {
            switch (calendar) {
                case SUN:
                case OLD_SUN:
                    return sunMonthDays(month, yearDays);
                case THIRTEEN:
                    return month == 13 ? yearDays - 360 : 30;
                case TABLED_MOON:
                    return month == 12 ? yearDays - 325 : 30 - (month + 1) % 2;
                case COUNTED_MOON:
                    return countedMonthDays(month, yearDays);
                case WEEKS:
                    return 7;
                case ROUND:
                    return 20;
                default:
                    int row = ROWS_A_YEAR * (year - 1) + month;
                    return startOfRow(row) - startOfRow(row - 1);
            }
        }

        private static int sunMonthDays(int month, int yearDays) {
            if (month < 1 || month > SUN_MONTHS.length) {
                return 0;
            }
            return month == 2 ? yearDays - 337 : SUN_MONTHS[month - 1];
        }

        private static int countedMonthDays(int month, int yearDays) {
            if (month == 2 && (yearDays == 355 || yearDays == 385)) {
                return 30;
            }
            if (month == 3 && (yearDays == 353 || yearDays == 383)) {
                return 29;
            }
            // a LONG YEAR has one more MONTH of 30 days behind the fifth one
            int turn = yearDays > 360 && month > 5 ? month - 1 : month;
            return turn % 2 == 1 ? 30 : 29;
        }

        /** Where all MONTHS but the last one are of the same length: that; else 0. */
        private static int evenMonthDays(int calendar) {
            switch (calendar) {
                case THIRTEEN:
                    return 30;
                case WEEKS:
                    return 7;
                case ROUND:
                    return 20;
                default:
                    return 0;
            }
        }

        int monthStart(int calendar, int year, int month) {
            int start = yearStart(calendar, year);
            int even = evenMonthDays(calendar);
            if (even > 0) {
                return start + even * (month - 1);
            }
            int yearDays = yearStart(calendar, year + 1) - start;
            for (int m = 1; m < month; m++) {
                start += monthDays(calendar, year, m, yearDays);
            }
            return start;
        }

        int yearOf(int calendar, int n) {
            int low = firstYear(calendar);
            int high = lastYear(calendar);
            for (int step = 0; step < 32 && low < high; step++) {
                int middle = (low + high + 1) / 2;
                if (yearStart(calendar, middle) <= n) {
                    low = middle;
                } else {
                    high = middle - 1;
                }
            }
            return low;
        }

        private int yearOfMonth(int calendar, int index) {
            int low = firstYear(calendar);
            int high = lastYear(calendar);
            for (int step = 0; step < 32 && low < high; step++) {
                int middle = (low + high + 1) / 2;
                if (monthsAhead(calendar, middle) <= index) {
                    low = middle;
                } else {
                    high = middle - 1;
                }
            }
            return low;
        }

        int monthOf(int calendar, int n) {
            int year = yearOf(calendar, n);
            int start = yearStart(calendar, year);
            int even = evenMonthDays(calendar);
            if (even > 0) {
                return (n - start) / even + 1;
            }
            int yearDays = yearStart(calendar, year + 1) - start;
            int last = monthsIn(calendar, year);
            int end = start;
            for (int month = 1; month < last; month++) {
                end += monthDays(calendar, year, month, yearDays);
                if (n < end) {
                    return month;
                }
            }
            return last;
        }

        int dayOf(int calendar, int n) {
            return n - monthStart(calendar, yearOf(calendar, n), monthOf(calendar, n)) + 1;
        }

        int weekdayOf(int calendar, int n) {
            switch (calendar) {
                case ROUND:
                    return (n + 7) % 20;
                case TOWN:
                    return (n - rowStart[0]) % 10;
                default:
                    return n % 7;
            }
        }

        /** A MONTH's place among all MONTHS of its CALENDAR, from 0 on. */
        int monthIndex(int calendar, int n) {
            return monthsAhead(calendar, yearOf(calendar, n)) + monthOf(calendar, n) - 1;
        }

        /** The day of the MONTH at an index, or its last one, if it has not so many. */
        int dayInMonth(int calendar, int index, int day) {
            int year = yearOfMonth(calendar, index);
            int month = index - monthsAhead(calendar, year) + 1;
            int days = Math.min(day, daysInMonth(calendar, year, month));
            return monthStart(calendar, year, month) + days - 1;
        }

        /** Day n's date in another YEAR that is there, cut to its MONTHS and days. */
        int anniversary(int calendar, int n, int year) {
            int month = Math.min(monthOf(calendar, n), monthsIn(calendar, year));
            int day = Math.min(dayOf(calendar, n), daysInMonth(calendar, year, month));
            return monthStart(calendar, year, month) + day - 1;
        }

        /** Of a YEAR of CALENDAR 0 the first day within the range. */
        int firstDayIn(int year) {
            return Math.max(0, yearStart(SUN, year));
        }

        int lastDayIn(int year) {
            return Math.min(LAST_DAY, yearStart(SUN, year + 1) - 1);
        }

        /** A style bears the number of the CALENDAR in which it counts. */
        int movableDay(int style, int year) {
            int golden = year % 19;
            int l = style == 1 ? oldStyleShift(golden, year) : newStyleShift(golden, year);
            int month = 3 + (l + 40) / 44;
            int day = l + 28 - 31 * (month / 4);
            return monthStart(style, year, month) + day - 1;
        }

        private static int oldStyleShift(int golden, int year) {
            int e = (19 * golden + 15) % 30;
            return e - (year + year / 4 + e) % 7;
        }

        private static int newStyleShift(int golden, int year) {
            int c = year / 100;
            int h = Math.floorMod(c - c / 4 - (8 * c + 13) / 25 + 19 * golden + 15, 30);
            int i = h - (h / 28) * (1 - (29 / (h + 1)) * ((21 - golden) / 11));
            return i - Math.floorMod(year + year / 4 + i + 2 - c + c / 4, 7);
        }

        /** Behind the last ROW: the day behind it. */
        private int startOfRow(int row) {
            return rowStart[row < 0 ? 0 : row > rowCount ? rowCount : row];
        }

        boolean mayFollow(int first) {
            return rowCount == 0 || first == startOfRow(rowCount);
        }

        void addRow(int first, int length) {
            if (rowCount < MOST_ROWS) {
                rowStart[rowCount] = first;
                rowCount++;
                rowStart[rowCount] = first + length;
            }
        }

        void dropRow() {
            if (rowCount > 0) {
                rowCount--;
            }
        }
    }

    /** Which words name which MONTHS. */
    private static final class Words {
        static final int MOST = 300;
        static final int MOST_A_MONTH = 3;

        private final long[] word = new long[MOST];
        private final int[] calendar = new int[MOST];
        private final int[] month = new int[MOST];
        int count;

        int monthBy(int ofCalendar, long ofWord) {
            for (int i = 0; i < count; i++) {
                if (calendar[i] == ofCalendar && word[i] == ofWord) {
                    return month[i];
                }
            }
            return NONE;
        }

        int countFor(int ofCalendar, int ofMonth) {
            int found = 0;
            for (int i = 0; i < count; i++) {
                if (calendar[i] == ofCalendar && month[i] == ofMonth) {
                    found++;
                }
            }
            return found;
        }

        void add(int ofCalendar, int ofMonth, long ofWord) {
            if (count < MOST) {
                calendar[count] = ofCalendar;
                month[count] = ofMonth;
                word[count] = ofWord;
                count++;
            }
        }

        void drop() {
            if (count > 0) {
                count--;
            }
        }
    }

    /** The FEASTS, and where those of one YEAR are PLACED. */
    private static final class Feasts {
        static final int MOST = 60;
        static final int HIGHEST_RANK = 9;
        private static final int SLOTS = 8;
        private static final int NO_YEAR = -1;
        private static final int FIXED = 0, WEEKDAY = 1, MOVABLE = 2, BEHIND = 3;

        private final Calendars calendars;
        private final int[] rule = new int[MOST];
        private final int[] a = new int[MOST];
        private final int[] b = new int[MOST];
        private final int[] c = new int[MOST];
        private final int[] rank = new int[MOST];
        int count;

        /** By RANKS, the greatest first, then numbers. */
        private final int[] order = new int[MOST];

        /**
         * Days off ask for the same few YEARS again and again, so the latest
         * ones are kept, each in the slot of its number's rest: the days ahead
         * of all moving, and the days at which the FEASTS are PLACED.
         */
        private final int[] slotYear = new int[SLOTS];
        private final int[] unmoved = new int[SLOTS * MOST];
        private final int[] placed = new int[SLOTS * MOST];
        private int slotStart;

        /** The days on which no more FEASTS may come, in rising order. */
        private final int[] taken = new int[MOST];
        private int takenCount;

        Feasts(Calendars calendars) {
            this.calendars = calendars;
            Arrays.fill(slotYear, NO_YEAR);
        }

        boolean has(int feast) {
            return feast >= 0 && feast < count;
        }

        boolean isRuleRight(int ofRule, int ofA, int ofB, int ofC) {
            switch (ofRule) {
                case FIXED:
                    return within(ofA, 1, HIGHEST_MONTH) && within(ofB, 1, LONGEST_ROW) && within(ofC, SUN, ROUND);
                case WEEKDAY:
                    return within(ofA, 1, 12) && within(ofB, 0, 6) && (within(ofC, 1, 5) || ofC == -1);
                case MOVABLE:
                    return within(ofA, -60, 100) && within(ofB, 0, 1);
                case BEHIND:
                    return has(ofA) && within(ofB, -40, 40);
                default:
                    return false;
            }
        }

        private static boolean within(int value, int least, int most) {
            return value >= least && value <= most;
        }

        void add(int ofRule, int ofA, int ofB, int ofC, int ofRank) {
            if (count < MOST) {
                rule[count] = ofRule;
                a[count] = ofA;
                b[count] = ofB;
                c[count] = ofC;
                rank[count] = ofRank;
                count++;
                changed();
            }
        }

        void drop() {
            if (count > 0) {
                count--;
                changed();
            }
        }

        private void changed() {
            Arrays.fill(slotYear, NO_YEAR);
            sortByRank();
        }

        /** The FEAST at a place of the order by RANKS. */
        int inOrder(int i) {
            return has(i) ? order[i] : NONE;
        }

        int rankOf(int feast) {
            return has(feast) ? rank[feast] : NONE;
        }

        /** Of the YEAR that was handed to place() last, as are the two below. */
        int placedDay(int feast) {
            return has(feast) ? placed[slotStart + feast] : NONE;
        }

        int unmovedDay(int feast) {
            return has(feast) ? unmoved[slotStart + feast] : NONE;
        }

        int countOn(int n) {
            int found = 0;
            for (int i = 0; i < count; i++) {
                if (placed[slotStart + i] == n) {
                    found++;
                }
            }
            return found;
        }

        void place(int year) {
            int slot = Math.floorMod(year, SLOTS);
            slotStart = slot * MOST;
            if (slotYear[slot] == year) {
                return;
            }
            slotYear[slot] = year;
            // a BEHIND one leans on a lesser number alone, so rising numbers find its day ready
            for (int i = 0; i < count; i++) {
                int day = ruleDay(i, year);
                unmoved[slotStart + i] = isDay(day) ? day : NONE;
            }
            takenCount = 0;
            for (int i = 0; i < count; i++) {
                int feast = order[i];
                int day = unmoved[slotStart + feast];
                placed[slotStart + feast] = day == NONE || rank[feast] == 0 ? day : settle(day);
            }
        }

        private void sortByRank() {
            int next = 0;
            for (int r = HIGHEST_RANK; r >= 0; r--) {
                for (int i = 0; i < count; i++) {
                    if (rank[i] == r && next < MOST) {
                        order[next] = i;
                        next++;
                    }
                }
            }
        }

        private int settle(int day) {
            int at = 0;
            while (at < takenCount && taken[at] < day) {
                at++;
            }
            int free = day;
            while (at < takenCount && taken[at] == free) {
                at++;
                free++;
            }
            if (free > LAST_DAY || takenCount >= MOST) {
                return NONE;
            }
            for (int i = takenCount; i > at; i--) {
                taken[i] = taken[i - 1];
            }
            taken[at] = free;
            takenCount++;
            return free;
        }

        private int ruleDay(int feast, int year) {
            switch (rule[feast]) {
                case FIXED:
                    return fixedDay(c[feast], a[feast], b[feast], year);
                case WEEKDAY:
                    return weekdayDay(a[feast], b[feast], c[feast], year);
                case MOVABLE:
                    return calendars.movableDay(b[feast], year) + a[feast];
                default:
                    int other = unmovedDay(a[feast]);
                    return other == NONE ? NONE : other + b[feast];
            }
        }

        private int fixedDay(int calendar, int month, int day, int year) {
            int first = calendars.firstDayIn(year);
            int last = calendars.lastDayIn(year);
            if (first > last) {
                return NONE;
            }
            int lastOwn = calendars.yearOf(calendar, last);
            for (int own = calendars.yearOf(calendar, first); own <= lastOwn; own++) {
                if (month <= calendars.monthsIn(calendar, own) && day <= calendars.daysInMonth(calendar, own, month)) {
                    int n = calendars.monthStart(calendar, own, month) + day - 1;
                    if (n >= first && n <= last) {
                        return n;
                    }
                }
            }
            return NONE;
        }

        private int weekdayDay(int month, int weekday, int which, int year) {
            int first = calendars.monthStart(SUN, year, month);
            int end = first + calendars.daysInMonth(SUN, year, month);
            int n = first + Math.floorMod(weekday - first, 7);
            if (which == -1) {
                return n + 28 < end ? n + 28 : n + 21;
            }
            n += 7 * (which - 1);
            return n < end ? n : NONE;
        }
    }

    /** The moon: exactly in PARTS, and as estimated in doubles. */
    private static final class Moon {
        private static final long DAY_PARTS = 25920;
        private static final long MOON_PARTS = 765433;
        private static final long FIRST_NEW_MOON = 5604;

        static int ageOn(int n) {
            return (int) Math.floorMod(n * DAY_PARTS - FIRST_NEW_MOON, MOON_PARTS);
        }

        static long dayOfNewMoon(int k) {
            return (FIRST_NEW_MOON + k * MOON_PARTS) / DAY_PARTS;
        }

        static boolean isNewOn(int n) {
            // the age in the day's last PART is less than a day
            return Math.floorMod((n + 1) * DAY_PARTS - 1 - FIRST_NEW_MOON, MOON_PARTS) < DAY_PARTS;
        }

        private static double floorOf(double u) {
            double whole = (double) (long) u;
            return whole > u ? whole - 1.0 : whole;
        }

        private static double wave(double u) {
            double t = u - floorOf(u);
            double r = 2.0 * t - 1.0;
            double q = r * r;
            return r * (q - 1.0) * (3.140625 - q * (2.015625 - q * 0.453125));
        }

        static double estimatedAge(int n) {
            double sum = ageOn(n) / 25920.0;
            sum = sum + 0.41 * wave(n * 0.0362916 + 0.3);
            sum = sum + 0.174 * wave(n * 0.0027379 + 0.05);
            sum = sum + 0.018 * wave(n * 0.0677 + 0.7);
            sum = sum + 0.0115 * wave(n * 0.0734 + 0.11);
            sum = sum + -0.0041 * wave(n * 0.0314 + 0.5);
            return sum;
        }

        static int lightOn(int n) {
            double value = 500.0 - 500.0 * wave(estimatedAge(n) / 29.530594 + 0.25);
            if (value <= 0.0) {
                return 0;
            }
            if (value >= 1000.0) {
                return 1000;
            }
            int whole = (int) value;
            double rest = value - whole;
            boolean up = rest > 0.5 || rest == 0.5 && whole % 2 == 1;
            return up ? whole + 1 : whole;
        }
    }

    /** The PARISHES with their RULES, and which days of a stretch are FREE in one of them. */
    private static final class Parishes {
        static final int MOST = 8;
        static final int MOST_RULES = 48;
        static final int FARTHEST = 10;

        private final Calendars calendars;
        private final Feasts feasts;
        private final int[] weekly = new int[MOST];
        private final boolean[] bridges = new boolean[MOST];
        int count;

        private final int[] ruleParish = new int[MOST_RULES];
        private final int[] ruleFeast = new int[MOST_RULES];
        private final int[] ahead = new int[MOST_RULES];
        private final int[] behind = new int[MOST_RULES];
        int ruleCount;

        /** Bridges look one day beyond each end of the longest stretch. */
        private final boolean[] free = new boolean[LONGEST_WORK + 2];
        private int freeStart;
        private int freeEnd;
        private boolean bridging;

        Parishes(Calendars calendars, Feasts feasts) {
            this.calendars = calendars;
            this.feasts = feasts;
        }

        boolean has(int parish) {
            return parish >= 0 && parish < count;
        }

        void add(int ofWeekly, boolean ofBridges) {
            if (count < MOST) {
                weekly[count] = ofWeekly;
                bridges[count] = ofBridges;
                count++;
            }
        }

        void drop() {
            if (count > 0) {
                count--;
            }
        }

        void addRule(int parish, int feast, int ofAhead, int ofBehind) {
            if (ruleCount < MOST_RULES) {
                ruleParish[ruleCount] = parish;
                ruleFeast[ruleCount] = feast;
                ahead[ruleCount] = ofAhead;
                behind[ruleCount] = ofBehind;
                ruleCount++;
            }
        }

        void dropRule() {
            if (ruleCount > 0) {
                ruleCount--;
            }
        }

        int rulesOf(int parish) {
            int found = 0;
            for (int i = 0; i < ruleCount; i++) {
                if (ruleParish[i] == parish) {
                    found++;
                }
            }
            return found;
        }

        /** Finds the FREE days from one day to another, so that rests() can be asked of these. */
        void lookAt(int parish, int from, int to) {
            if (!has(parish)) {
                return;
            }
            bridging = bridges[parish];
            freeStart = Math.max(0, from - 1);
            freeEnd = Math.min(LAST_DAY + 1, Math.min(to + 2, freeStart + free.length));
            for (int n = freeStart; n < freeEnd; n++) {
                free[n - freeStart] = (weekly[parish] >> n % 7 & 1) == 1;
            }
            if (rulesOf(parish) == 0) {
                return;
            }
            int firstYear = Math.max(0, calendars.yearOf(SUN, freeStart) - 1);
            int lastYear = Math.min(LAST_YEAR, calendars.yearOf(SUN, freeEnd - 1) + 1);
            for (int year = firstYear; year <= lastYear; year++) {
                feasts.place(year);
                markFeasts(parish, year);
            }
        }

        /** A YEAR's FEASTS free days of that YEAR, the one before and the next one alone. */
        private void markFeasts(int parish, int year) {
            int first = Math.max(freeStart, calendars.firstDayIn(Math.max(0, year - 1)));
            int last = Math.min(freeEnd - 1, calendars.lastDayIn(year + 1));
            for (int i = 0; i < ruleCount; i++) {
                int day = feasts.placedDay(ruleFeast[i]);
                if (ruleParish[i] == parish && day != NONE) {
                    int to = Math.min(last, day + behind[i]);
                    for (int n = Math.max(first, day - ahead[i]); n <= to; n++) {
                        free[n - freeStart] = true;
                    }
                }
            }
        }

        private boolean isFree(int n) {
            return n >= freeStart && n < freeEnd && free[n - freeStart];
        }

        boolean rests(int n) {
            return isFree(n) || bridging && isFree(n - 1) && isFree(n + 1);
        }
    }

    /** THE PAGE. */
    private static final class Page {
        static final int LINES = 28;
        static final int WIDTH = 40;
        private static final String WEEKDAYS = "MTWTFSS";

        final int[] signs = new int[LINES * WIDTH];

        Page() {
            Arrays.fill(signs, ' ');
        }

        /** The line of day n in a MONTH that begins on a first day. */
        static int lineOf(int first, int n) {
            return 2 + (n - (first - first % 7)) / 7;
        }

        void begin(int year, int month) {
            Arrays.fill(signs, ' ');
            int behind = putNumber(0, 0, year);
            putNumber(0, behind + 1, month);
            for (int i = 0; i < WEEKDAYS.length(); i++) {
                put(1, 3 * i + 1, WEEKDAYS.charAt(i));
            }
        }

        void put(int line, int place, int sign) {
            if (line >= 0 && line < LINES && place >= 0 && place < WIDTH) {
                signs[line * WIDTH + place] = sign;
            }
        }

        /** Answers the place behind the number. */
        int putNumber(int line, int place, int number) {
            int unit = 1;
            while (unit < 100000000 && number / unit >= 10) {
                unit *= 10;
            }
            int at = place;
            for (int left = unit; left > 0; left /= 10) {
                put(line, at, '0' + number / left % 10);
                at++;
            }
            return at;
        }

        void putTwoDigits(int line, int place, int number) {
            int tens = number / 10 % 10;
            put(line, place, tens == 0 ? ' ' : '0' + tens);
            put(line, place + 1, '0' + number % 10);
        }
    }

    /** THE TAPE, on which BOOKS come one behind the other. */
    private static final class Tape {
        static final int MOST = 1200;
        private static final int HEAD = 4;
        private static final int SUM = 4;
        static final int FRAME = HEAD + SUM;

        final int[] bytes = new int[MOST];
        int size;

        /** The lowest bytes of a value, the highest of these first. */
        void append(int value, int howMany) {
            for (int i = howMany - 1; i >= 0; i--) {
                if (size < MOST) {
                    bytes[size] = value >> 8 * i & 255;
                    size++;
                }
            }
        }

        int sumOf(int from, int to) {
            int sum = 1;
            for (int i = Math.max(0, from); i < to && i < MOST; i++) {
                sum = Integer.rotateLeft(sum ^ bytes[i], 9) * 0x01000193;
            }
            return sum;
        }

        private int numberAt(int from, int howMany) {
            int number = 0;
            for (int i = Math.max(0, from); i < from + howMany && i < MOST; i++) {
                number = number << 8 | bytes[i];
            }
            return number;
        }

        int countBooks() {
            int at = 0;
            for (int books = 1; books <= MOST; books++) {
                // where no whole head is left, no SUM is left behind it either
                int sumAt = at + HEAD + numberAt(at + 2, 2);
                if (sumAt + SUM > size || numberAt(sumAt, SUM) != sumOf(at, sumAt)) {
                    return NONE;
                }
                at = sumAt + SUM;
                if (at == size) {
                    return books;
                }
            }
            return NONE;
        }
    }

    /** What can be taken back, the latest last; of more than it holds the eldest is forgotten. */
    private static final class Deeds {
        private static final int MOST = 100;

        private final int[] kinds = new int[MOST];
        private int next;
        int left;

        void note(int kind) {
            kinds[next] = kind;
            next = (next + 1) % MOST;
            left = Math.min(MOST, left + 1);
        }

        int takeBack() {
            if (left == 0) {
                return NONE;
            }
            left--;
            next = (next + MOST - 1) % MOST;
            return kinds[next];
        }
    }
}
