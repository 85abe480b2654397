import java.math.BigDecimal;
import java.math.MathContext;

/** The edges of promises 20 to 23: the moon. */
final class EdgesOfMoons {
    private static final int LAST = 1500000;
    private static final int MAX = Integer.MAX_VALUE, MIN = Integer.MIN_VALUE;
    private static final int BAD = AlmanacHouse.BAD, OUTSIDE = AlmanacHouse.OUTSIDE;
    private static final int[] NO_DAYS = {-1, LAST + 1, MAX, MIN};

    private EdgesOfMoons() { }

    static void run() {
        ages();
        ageRefuses();
        newMoons();
        newMoonRefuses();
        estimates();
        everyStepIsRounded();
        estimateRefuses();
        lights();
        lightsAreRounded();
        leastAndMostLight();
        lightRefuses();
    }

    private static void ages() {
        Due.sentence(20, "THE AGE.", "MOONS. A day has 25920 PARTS, a mean MONTH of the moon 765433.",
            "THE AGE of day n: how many PARTS the latest mean NEW MOON lies behind at its beginning"
            + " (on day 0 the one before number 0).");
        Twins x = new Twins();
        // ahead of number 0 there is one, too: 765433 - 5604 PARTS ahead of day 0
        x.due(759829, "age", 0).due(25920 - 5604, "age", 1).due(2 * 25920 - 5604, "age", 2);
        x.due(29 * 25920 - 5604, "age", 29).due(30 * 25920 - 5604 - 765433, "age", 30).due(590594, "age", LAST);
        x.due(590594 - 25920, "age", LAST - 1);
        // on two days the NEW MOON is at the very beginning, on two others it comes a PART behind that
        for (int n : new int[] {319285, 1084718}) {
            x.due(0, "age", n).due(25920, "age", n + 1).due(765433 - 25920, "age", n - 1);
        }
        for (int n : new int[] {219383, 984816}) {
            x.due(765432, "age", n).due(25919, "age", n + 1);
        }
        x.alike();
    }

    private static void ageRefuses() {
        Due.sentence(20, "OUTSIDE.");
        Twins x = new Twins();
        for (int n : NO_DAYS) {
            x.refused(OUTSIDE, "age", n);
        }
        x.due(759829, "age", 0).due(590594, "age", LAST).alike();
    }

    private static void newMoons() {
        Due.sentence(21, "The day on which mean NEW MOON k falls.",
            "The first mean NEW MOON is 5604 PARTS behind the beginning of day 0, number 0.");
        Twins x = new Twins();
        x.due(0, "newMoon", 0).due(29, "newMoon", 1).due(59, "newMoon", 2).due(88, "newMoon", 3);
        // in the first PART of a day, and in the last one
        x.due(319285, "newMoon", 10812).due(1084718, "newMoon", 36732);
        x.due(419186, "newMoon", 14195).due(1184619, "newMoon", 40115);
        x.due(1499977, "newMoon", 50794).alike();
    }

    private static void newMoonRefuses() {
        Due.sentence(21, "BAD: k below 0; OUTSIDE.");
        Twins x = new Twins();
        x.refused(BAD, "newMoon", -1).refused(BAD, "newMoon", -2).refused(BAD, "newMoon", MIN).due(0, "newMoon", 0);
        // number 50795 falls on day 1500006; the farther ones wrap round where ints are counted
        x.due(1499977, "newMoon", 50794).refused(OUTSIDE, "newMoon", 50795);
        for (int k : new int[] {50796, 60000, 2805, 2806, 5611, 72722, 145443, 1 << 30, MAX - 1, MAX}) {
            if (k > 50794) {
                x.refused(OUTSIDE, "newMoon", k);
            } else {
                x.due((5604 + 765433L * k) / 25920, "newMoon", k);
            }
        }
        x.alike();
    }

    private static void estimates() {
        Due.sentence(22, "ESTIMATE(n).",
            "ESTIMATE(n): from AGE / 25920.0 on, added one by one: 0.41 * WAVE(n * 0.0362916 + 0.3);"
            + " 0.174 * WAVE(n * 0.0027379 + 0.05); 0.018 * WAVE(n * 0.0677 + 0.7); 0.0115 * WAVE(n * 0.0734 + 0.11);"
            + " -0.0041 * WAVE(n * 0.0314 + 0.5).");
        // by another language's doubles: the ends of the range, NEW MOONS at a day's beginning, the least and the most
        Twins x = new Twins();
        x.due(29.748126491503992, "estimate", 0).due(1.1848898307068148, "estimate", 1).due(29.23167607042601, "estimate", 29);
        x.due(0.6364328140895142, "estimate", 30).due(0.6161429097136478, "estimate", 738000);
        x.due(22.283599438966384, "estimate", LAST).due(21.318213757507245, "estimate", LAST - 1);
        x.due(-0.17229922815355023, "estimate", 319285).due(0.040418612868718035, "estimate", 1084718);
        x.due(29.495479981724404, "estimate", 219383).due(29.29694969076129, "estimate", 984816);
        x.due(-0.5937750147389899, "estimate", 1290310).due(30.127969870557276, "estimate", 1005576);
        // here a WAVE that begins a whole turn aside is rounded otherwise
        x.due(0.14611121371612712, "estimate", 1005).due(0.42767630012309876, "estimate", 2038);
        x.due(8.406768703192437, "estimate", 1043561).alike();
    }

    /** The steps in decimals that lose nothing, then the nearest double of each. */
    private static double plus(double a, double b) {
        return new BigDecimal(a).add(new BigDecimal(b)).doubleValue();
    }

    private static double minus(double a, double b) {
        return new BigDecimal(a).subtract(new BigDecimal(b)).doubleValue();
    }

    private static double times(double a, double b) {
        return new BigDecimal(a).multiply(new BigDecimal(b)).doubleValue();
    }

    private static double over(double a, double b) {
        return new BigDecimal(a).divide(new BigDecimal(b), new MathContext(60)).doubleValue();
    }

    private static double wave(double u) {
        double t = minus(u, Math.floor(u));
        double r = minus(times(2.0, t), 1.0);
        double q = times(r, r);
        double left = times(r, minus(q, 1.0));
        return times(left, minus(3.140625, times(q, minus(2.015625, times(q, 0.453125)))));
    }

    private static double estimate(int n) {
        double sum = over(Math.floorMod(25920L * n - 5604, 765433L), 25920.0);
        sum = plus(sum, times(0.41, wave(plus(times(n, 0.0362916), 0.3))));
        sum = plus(sum, times(0.174, wave(plus(times(n, 0.0027379), 0.05))));
        sum = plus(sum, times(0.018, wave(plus(times(n, 0.0677), 0.7))));
        sum = plus(sum, times(0.0115, wave(plus(times(n, 0.0734), 0.11))));
        return plus(sum, times(-0.0041, wave(plus(times(n, 0.0314), 0.5))));
    }

    private static void everyStepIsRounded() {
        Due.sentence(22, "All in doubles, each operation rounded, as written: WAVE(u): t = u - floor(u); r = 2.0 * t - 1.0;"
            + " q = r * r; r * (q - 1.0) * (3.140625 - q * (2.015625 - q * 0.453125)), from the left.");
        Twins x = new Twins();
        for (int n = 0; n <= LAST; n += 997) {
            x.due(estimate(n), "estimate", n);
        }
        x.due(estimate(LAST), "estimate", LAST).alike();
    }

    private static void estimateRefuses() {
        Due.sentence(22, "-1.0: n is beyond the range.");
        Twins x = new Twins();
        for (int n : NO_DAYS) {
            x.refused(-1.0, "estimate", n);
        }
        x.alike();
    }

    private static void lights() {
        Due.sentence(23, "LIGHT(n).", "LIGHT(n): 500.0 - 500.0 * WAVE(ESTIMATE(n) / 29.530594 + 0.25)");
        Twins x = new Twins();
        x.due(1, "light", 0).due(16, "light", 1).due(1, "light", 29).due(5, "light", 30).due(486, "light", LAST);
        x.due(588, "light", LAST - 1).due(5, "light", 738000);
        // where the ESTIMATE is the least and the most
        x.due(4, "light", 1290310).due(4, "light", 1005576);
        for (int n = 0; n <= LAST; n += 9973) {
            double value = minus(500.0, times(500.0, wave(plus(over(estimate(n), 29.530594), 0.25))));
            x.due(Math.rint(value), "light", n);
        }
        x.alike();
    }

    private static void lightsAreRounded() {
        Due.sentence(23, "to the nearest whole number (of two the even one),");
        // no day of the range lies just between two; these are the nearest ones: 687.500000005, 552.500001, 795.499997, ..
        int[][] near = {{319206, 688}, {1279966, 553}, {140349, 795}, {266569, 172}, {752140, 226}, {1364777, 658}, {564528, 659},
            {484545, 463}, {254232, 75}, {403256, 984}, {412590, 924}, {689794, 879}};
        Twins x = new Twins();
        for (int[] of : near) {
            x.due(of[1], "light", of[0]);
        }
        x.alike();
    }

    private static void leastAndMostLight() {
        Due.sentence(23, "0 at least, 1000 at most.");
        // 0.3046 and 999.6954 are the least and the most; then those just beside 0.5 and 999.5
        Twins x = new Twins();
        x.due(0, "light", 1406660).due(1000, "light", 135797).due(0, "light", 1415579).due(1, "light", 931867);
        x.due(999, "light", 835406).due(1000, "light", 1117955);
        int beyond = 0;
        for (int n = 0; n <= LAST; n += 3) {
            int light = x.ask("light", n);
            beyond += light < 0 || light > 1000 ? 1 : 0;
        }
        Due.is("lights beyond 0 .. 1000", beyond, 0);
        x.alike();
    }

    private static void lightRefuses() {
        Due.sentence(23, "OUTSIDE.");
        Twins x = new Twins();
        for (int n : NO_DAYS) {
            x.refused(OUTSIDE, "light", n);
        }
        x.due(1, "light", 0).due(486, "light", LAST).alike();
    }
}
