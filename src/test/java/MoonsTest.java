/** Promises 20 to 23: the moon. */
public final class MoonsTest {
    private static final int LAST = 1500000;
    private static final int BAD = AlmanacHouse.BAD, OUTSIDE = AlmanacHouse.OUTSIDE;

    public static void main(String[] args) {
        House x = new House();
        ages(x);
        newMoons(x);
        estimates(x);
        lights(x);
        refusals(x);
        Due.end("MoonsTest");
    }

    private static void ages(House x) {
        long latest = 5604 - 765433;
        for (int n = 0; n <= LAST; n++) {
            while (latest + 765433 <= n * 25920L) {
                latest += 765433;
            }
            if (n % 11 == 0 || n > LAST - 100) {
                Due.is("age(" + n + ")", x.age(n), n * 25920L - latest);
            }
        }
    }

    private static void newMoons(House x) {
        long parts = 5604;
        for (int k = 0; k < 50795; k++) {
            Due.is("newMoon(" + k + ")", x.newMoon(k), parts / 25920);
            parts += 765433;
        }
        Due.is("newMoon(50794)", x.newMoon(50794), 1499977);
        Due.is("newMoon(50795)", x.newMoon(50795), OUTSIDE);
    }

    private static double wave(double u) {
        double t = u - Math.floor(u);
        double r = 2.0 * t - 1.0;
        double q = r * r;
        double outer = 3.140625 - q * (2.015625 - q * 0.453125);
        return r * (q - 1.0) * outer;
    }

    private static double estimate(House x, int n) {
        double[] sizes = {0.41, 0.174, 0.018, 0.0115, -0.0041};
        double[] speeds = {0.0362916, 0.0027379, 0.0677, 0.0734, 0.0314};
        double[] starts = {0.3, 0.05, 0.7, 0.11, 0.5};
        double sum = x.age(n) / 25920.0;
        for (int i = 0; i < 5; i++) {
            sum += sizes[i] * wave(n * speeds[i] + starts[i]);
        }
        return sum;
    }

    private static void estimates(House x) {
        Due.is("estimate(0)", x.estimate(0), 29.748126491503992);
        Due.is("estimate(738000)", x.estimate(738000), 0.6161429097136478);
        Due.is("estimate(1500000)", x.estimate(1500000), 22.283599438966384);
        boolean below = false;
        for (int n = 0; n <= LAST; n += 13) {
            Due.is("estimate(" + n + ")", x.estimate(n), estimate(x, n));
            below |= x.estimate(n) < 0.0;
        }
        Due.yes("some estimates are below 0", below);
    }

    private static void lights(House x) {
        int least = 1000;
        int most = 0;
        for (int n = 0; n <= LAST; n += 7) {
            double due = Math.rint(500.0 - 500.0 * wave(estimate(x, n) / 29.530594 + 0.25));
            int light = x.light(n);
            Due.is("light(" + n + ")", light, Math.max(0.0, Math.min(1000.0, due)));
            least = Math.min(least, light);
            most = Math.max(most, light);
        }
        Due.is("the least light", least, 0);
        Due.is("the most light", most, 1000);
    }

    private static void refusals(House x) {
        for (int n : new int[] {-1, LAST + 1, Integer.MAX_VALUE, Integer.MIN_VALUE}) {
            Due.is("age(" + n + ")", x.age(n), OUTSIDE);
            Due.is("estimate(" + n + ")", x.estimate(n), -1.0);
            Due.is("light(" + n + ")", x.light(n), OUTSIDE);
        }
        Due.is("newMoon(-1)", x.newMoon(-1), BAD);
        Due.is("newMoon(MIN)", x.newMoon(Integer.MIN_VALUE), BAD);
        Due.is("newMoon(MAX)", x.newMoon(Integer.MAX_VALUE), OUTSIDE);
    }
}
