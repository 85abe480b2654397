import java.util.Random;

/**
 * Runs of 512 calls with drawn arguments, on AlmanacHouse and on SlowHouse
 * alike; every answer must be the same. The seeds are fixed, so a run that
 * fails fails again: "FuzzTest AlmanacHouse.java 1000 99" makes 1000 runs from seed 99 on.
 */
public final class FuzzTest {
    private static final int CALLS = House.MOST_CALLS;
    private static final int THEMES = 8;
    private static final int[] EDGES = {
        0, 1, 2, -1, -2, 7, 8, 12, 13, 53, 54, 60, 61, 100, 101, 127, 128, 200, 201, 255, 256, 400, 500, 800, 801, 1199,
        1200, 4106, 4107, 4108, 5000, 5001, -5000, -5001, 60000, 60001, -60000, -60001, 1499999, 1500000, 1500001,
        Integer.MAX_VALUE, Integer.MIN_VALUE, Integer.MAX_VALUE - 1, Integer.MIN_VALUE + 1, 1 << 30, -(1 << 30)};
    private static final int[][] THEMED_CALLS = {
        {},
        {9, 9, 9, 9, 9, 9, 0, 1, 2, 3, 4, 5, 6, 7, 36},
        {10, 10, 10, 10, 10, 10, 11, 12, 36},
        {13, 13, 13, 14, 15, 17, 36},
        {13, 22, 23, 23, 24, 25, 26, 27, 28, 29},
        {13, 22, 23, 30, 31, 32, 33, 34, 35, 30},
        {0, 1, 2, 3, 4, 5, 6, 7, 8, 9},
        {13, 22, 23, 24, 25, 26, 27, 36}};

    private final Random random;
    private final int theme;
    private final int focus;
    private final House fast = new House();
    private final SlowHouse slow = new SlowHouse();
    private String call = "";

    private FuzzTest(long seed) {
        random = new Random(seed);
        theme = (int) (seed % THEMES);
        int[] places = {0, 3, 700, 2023, 4000, 4105, 4106, 4107};
        focus = random.nextInt(3) == 0 ? random.nextInt(4108) : places[random.nextInt(places.length)];
    }

    public static void main(String[] args) {
        int runs = args.length > 1 ? Integer.parseInt(args[1]) : 240;
        long seed = args.length > 2 ? Long.parseLong(args[2]) : 1;
        for (long s = seed; s < seed + runs; s++) {
            Due.yes("the run of seed " + s, new FuzzTest(s).agrees(s));
        }
        System.out.println("FuzzTest: " + runs + " runs of " + CALLS + " calls");
        Due.end("FuzzTest");
    }

    private boolean agrees(long seed) {
        for (int i = 0; i < CALLS; i++) {
            int[] themed = THEMED_CALLS[theme];
            boolean free = themed.length == 0 || random.nextInt(10) == 0;
            int which = free ? random.nextInt(39) : themed[random.nextInt(themed.length)];
            if (which == 36 && random.nextInt(4) != 0) {
                which = 37;
            }
            double[] answers;
            try {
                answers = ask(which);
            } catch (RuntimeException e) {
                System.out.println("seed " + seed + ", call " + i + ": " + call + " threw " + e);
                e.printStackTrace(System.out);
                return false;
            }
            if (answers[0] != answers[1]) {
                System.out.println("seed " + seed + ", call " + i + ": " + call + " answered " + answers[0]
                    + ", due is " + answers[1]);
                return false;
            }
        }
        return samePage(seed) && sameTape(seed);
    }

    private boolean samePage(long seed) {
        for (int line = 0; line < 28; line++) {
            for (int i = 0; i < 40; i++) {
                if (fast.sign(line, i) != slow.sign(line, i)) {
                    System.out.println("seed " + seed + ": sign " + line + " " + i + " at the end differs");
                    return false;
                }
            }
        }
        return true;
    }

    private boolean sameTape(long seed) {
        for (int i = -1; i <= 1200; i++) {
            if (fast.byteAt(i) != slow.byteAt(i)) {
                System.out.println("seed " + seed + ": byte " + i + " at the end differs");
                return false;
            }
        }
        return true;
    }

    private int edge() {
        return EDGES[random.nextInt(EDGES.length)];
    }

    private boolean rare() {
        return random.nextInt(25) == 0;
    }

    private int among(int least, int most) {
        return rare() ? edge() : least + random.nextInt(most - least + 1);
    }

    private int calendar() {
        if (theme == 1 && random.nextBoolean()) {
            return 7;
        }
        return rare() ? edge() : random.nextInt(60) == 0 ? 8 : random.nextInt(8);
    }

    private int year() {
        switch (random.nextInt(5)) {
            case 0:
                return rare() ? edge() : random.nextInt(5002);
            case 1:
                return theme == 1 ? 1 + random.nextInt(12) : random.nextInt(4108);
            default:
                return Math.max(0, focus - 1 + random.nextInt(3));
        }
    }

    private int day() {
        switch (random.nextInt(6)) {
            case 0:
                return rare() ? edge() : random.nextInt(1500001);
            case 1:
                return random.nextInt(500);
            case 2:
                return 1500000 - random.nextInt(500);
            default:
                return Math.max(0, Math.min(1500000, focus * 365 + focus / 4 + random.nextInt(800) - 460));
        }
    }

    private int later(int day, int most) {
        return rare() ? edge() : day + random.nextInt(most);
    }

    private long word() {
        return random.nextInt(20) == 0 ? random.nextLong() : random.nextInt(theme == 2 ? 400 : 12);
    }

    private double[] ask(int which) {
        if (which < 13) {
            return askCalendars(which);
        }
        if (which < 22) {
            return askFeasts(which);
        }
        return which < 28 ? askParishes(which) : askBooks(which);
    }

    private double[] askCalendars(int which) {
        int c = calendar();
        int y = year();
        int m = among(0, random.nextBoolean() ? 13 : 54);
        int n = day();
        switch (which) {
            case 0: {
                int d = among(0, random.nextBoolean() ? 31 : 201);
                call = "toDay(" + c + ", " + y + ", " + m + ", " + d + ")";
                return new double[] {fast.toDay(c, y, m, d), slow.toDay(c, y, m, d)};
            }
            case 1: {
                int what = among(-1, 5);
                call = "fromDay(" + c + ", " + n + ", " + what + ")";
                return new double[] {fast.fromDay(c, n, what), slow.fromDay(c, n, what)};
            }
            case 2:
                call = "monthLength(" + c + ", " + y + ", " + m + ")";
                return new double[] {fast.monthLength(c, y, m), slow.monthLength(c, y, m)};
            case 3:
                call = "yearLength(" + c + ", " + y + ")";
                return new double[] {fast.yearLength(c, y), slow.yearLength(c, y)};
            case 4:
                call = "months(" + c + ", " + y + ")";
                return new double[] {fast.months(c, y), slow.months(c, y)};
            case 5: {
                int k = random.nextBoolean() ? among(-30, 30) : among(-60000, 60000);
                call = "addMonths(" + c + ", " + n + ", " + k + ")";
                return new double[] {fast.addMonths(c, n, k), slow.addMonths(c, n, k)};
            }
            case 6: {
                int k = random.nextBoolean() ? among(-10, 10) : among(-5000, 5000);
                call = "addYears(" + c + ", " + n + ", " + k + ")";
                return new double[] {fast.addYears(c, n, k), slow.addYears(c, n, k)};
            }
            case 7: {
                int b = random.nextInt(3) == 0 ? day() : later(n, random.nextBoolean() ? 1000 : 100000);
                int what = among(-1, 3);
                call = "difference(" + c + ", " + n + ", " + b + ", " + what + ")";
                return new double[] {fast.difference(c, n, b, what), slow.difference(c, n, b, what)};
            }
            case 8:
                call = "birthday(" + c + ", " + n + ", " + y + ")";
                return new double[] {fast.birthday(c, n, y), slow.birthday(c, n, y)};
            default:
                return askRowsAndWords(which);
        }
    }

    private double[] askRowsAndWords(int which) {
        int c = calendar();
        long w = word();
        switch (which) {
            case 9: {
                int rows = slow.count(0);
                int end = rows == 0 ? day() : slow.toDay(7, (rows - 1) / 10 + 1, (rows - 1) % 10 + 1, 1)
                    + slow.monthLength(7, (rows - 1) / 10 + 1, (rows - 1) % 10 + 1);
                int first = random.nextInt(20) == 0 ? day() : end;
                int length = among(1, random.nextBoolean() ? 40 : 200);
                call = "row(" + first + ", " + length + ")";
                return new double[] {fast.row(first, length), slow.row(first, length)};
            }
            case 10: {
                int m = among(0, 54);
                call = "name(" + c + ", " + m + ", " + w + ")";
                return new double[] {fast.name(c, m, w), slow.name(c, m, w)};
            }
            case 11:
                call = "monthNamed(" + c + ", " + w + ")";
                return new double[] {fast.monthNamed(c, w), slow.monthNamed(c, w)};
            default:
                call = "spellings(" + w + ")";
                return new double[] {fast.spellings(w), slow.spellings(w)};
        }
    }

    private double[] askFeasts(int which) {
        int f = among(-1, Math.max(1, slow.count(2)));
        int y = year();
        int n = day();
        switch (which) {
            case 13:
                return askFeast();
            case 14:
                call = "feastDay(" + f + ", " + y + ")";
                return new double[] {fast.feastDay(f, y), slow.feastDay(f, y)};
            case 15:
                call = "moved(" + f + ", " + y + ")";
                return new double[] {fast.moved(f, y), slow.moved(f, y)};
            case 16: {
                int style = among(-1, 2);
                call = "movable(" + style + ", " + y + ")";
                return new double[] {fast.movable(style, y), slow.movable(style, y)};
            }
            case 17: {
                int k = among(-1, 3);
                if (slow.count(2) > 0 && random.nextBoolean()) {
                    n = slow.feastDay(random.nextInt(slow.count(2)), y);
                }
                call = "feastOn(" + n + ", " + k + ")";
                return new double[] {fast.feastOn(n, k), slow.feastOn(n, k)};
            }
            case 18:
                call = "age(" + n + ")";
                return new double[] {fast.age(n), slow.age(n)};
            case 19: {
                int k = among(-1, 51000);
                call = "newMoon(" + k + ")";
                return new double[] {fast.newMoon(k), slow.newMoon(k)};
            }
            case 20:
                call = "estimate(" + n + ")";
                return new double[] {fast.estimate(n), slow.estimate(n)};
            default:
                call = "light(" + n + ")";
                return new double[] {fast.light(n), slow.light(n)};
        }
    }

    private double[] askFeast() {
        int rule = theme == 7 ? 3 * random.nextInt(2) : among(-1, 4);
        int rank = random.nextInt(3) == 0 ? among(0, 9) : among(1, 3);
        int a = among(0, 13);
        int b = among(0, 31);
        int c = among(0, 7);
        if (rule == 0 && random.nextInt(4) == 0) {
            a = among(1, 53);
            b = among(1, 7);
            c = 5;
        }
        if (rule == 0 && random.nextInt(3) == 0) {
            a = 12;
            b = among(25, 31);
            c = 0;
        }
        if (rule == 1) {
            b = among(-1, 7);
            c = among(-1, 6);
        }
        if (rule == 2) {
            a = among(-61, 101);
            b = among(-1, 2);
        }
        if (rule == 3) {
            a = slow.count(2) - (random.nextInt(4) == 0 ? random.nextInt(4) : 1);
            b = theme == 7 ? (random.nextInt(8) == 0 ? -40 : 40) : among(-41, 41);
        }
        call = "feast(" + rule + ", " + a + ", " + b + ", " + c + ", " + rank + ")";
        return new double[] {fast.feast(rule, a, b, c, rank), slow.feast(rule, a, b, c, rank)};
    }

    private double[] askParishes(int which) {
        int p = among(-1, Math.max(0, slow.count(3)));
        int n = day();
        switch (which) {
            case 22: {
                int weekly = random.nextBoolean() ? 96 & random.nextInt(128) : among(-1, 128);
                boolean bridges = random.nextBoolean();
                call = "parish(" + weekly + ", " + bridges + ")";
                return new double[] {fast.parish(weekly, bridges), slow.parish(weekly, bridges)};
            }
            case 23: {
                int f = among(-1, Math.max(0, slow.count(2)));
                int ahead = random.nextBoolean() ? 0 : among(-1, 11);
                int behind = random.nextBoolean() ? 0 : among(-1, 11);
                call = "rule(" + p + ", " + f + ", " + ahead + ", " + behind + ")";
                return new double[] {fast.rule(p, f, ahead, behind), slow.rule(p, f, ahead, behind)};
            }
            case 24:
                call = "isOff(" + p + ", " + n + ")";
                return new double[] {fast.isOff(p, n), slow.isOff(p, n)};
            case 25: {
                int to = later(n, random.nextBoolean() ? 30 : 803);
                call = "worked(" + p + ", " + n + ", " + to + ")";
                return new double[] {fast.worked(p, n, to), slow.worked(p, n, to)};
            }
            case 26:
                call = "nextOff(" + p + ", " + n + ")";
                return new double[] {fast.nextOff(p, n), slow.nextOff(p, n)};
            default:
                call = "inRow(" + p + ", " + n + ")";
                return new double[] {fast.inRow(p, n), slow.inRow(p, n)};
        }
    }

    private double[] askBooks(int which) {
        int p = among(0, Math.max(0, slow.count(3)));
        int y = year();
        int i = random.nextBoolean() ? among(0, Math.max(1, slow.count(6))) : among(0, 12);
        switch (which) {
            case 28: {
                int c = calendar();
                int m = among(0, random.nextBoolean() ? 13 : 54);
                call = "page(" + p + ", " + c + ", " + y + ", " + m + ")";
                return new double[] {fast.page(p, c, y, m), slow.page(p, c, y, m)};
            }
            case 29: {
                int line = among(-1, 28);
                int place = among(-1, 40);
                call = "sign(" + line + ", " + place + ")";
                return new double[] {fast.sign(line, place), slow.sign(line, place)};
            }
            case 30:
                call = "book(" + p + ", " + y + ")";
                return new double[] {fast.book(p, y), slow.book(p, y)};
            case 31: {
                int v = random.nextInt(3) == 0 ? random.nextInt() : random.nextInt(3);
                int k = among(0, 5);
                call = "load(" + v + ", " + k + ")";
                return new double[] {fast.load(v, k), slow.load(v, k)};
            }
            case 32:
                call = "byteAt(" + i + ")";
                return new double[] {fast.byteAt(i), slow.byteAt(i)};
            case 33: {
                int mask = random.nextBoolean() ? 0 : random.nextInt();
                call = "spoil(" + i + ", " + mask + ")";
                return new double[] {fast.spoil(i, mask), slow.spoil(i, mask)};
            }
            case 34:
                call = "wipe()";
                return random.nextInt(3) == 0 ? new double[] {fast.wipe(), slow.wipe()} : new double[2];
            case 35:
                call = "verify()";
                return new double[] {fast.verify(), slow.verify()};
            case 36:
                call = "undo()";
                return new double[] {fast.undo(), slow.undo()};
            default: {
                int what = among(-1, 7);
                call = "count(" + what + ")";
                return new double[] {fast.count(what), slow.count(what)};
            }
        }
    }
}
