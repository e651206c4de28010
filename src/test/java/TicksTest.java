/** Shots told tick by tick, as "Curtains" and "Speeds, bounce" of the document have them, held against the class. */
public final class TicksTest {
    private static final Checks CHECKS = new Checks();
    private static final int LONG = 100_000;

    /** A fixed row of numbers: each run of the test makes the same shots. */
    private long seed;
    private final int[][] takes = new int[2][24];
    private final int[] leftAt = new int[24];
    private final int[] coveredAt = new int[24];
    private final int[] light = new int[24];

    private TicksTest(long seed) {
        this.seed = seed;
    }

    /** Each speed has a bench of its own, the same one again: no object gets more than 512 calls. */
    public static void main(String[] args) {
        for (int run = 1; run <= 400; run++) {
            for (int speed = 0; speed <= 5; speed++) {
                TicksTest test = new TicksTest(run);
                test.compare("run " + run + ", speed " + speed, test.bench(), speed);
            }
        }
        CHECKS.end("TicksTest");
    }

    private int next(int least, int most) {
        seed = seed * 6364136223846793005L + 1442695040888963407L;
        return least + (int) ((seed >>> 33) % (most - least + 1));
    }

    /** Springs that are slow, alike or quick, drags here and there, shots that wear and bring dust. */
    private ShutterBench bench() {
        ShutterBench b = new ShutterBench();
        int least = next(0, 3) == 0 ? 1 : 45;
        int spring = next(least, 99);
        b.wind(0, spring);
        b.wind(1, next(0, 2) == 0 ? spring : next(least, 99));
        for (int k = next(0, 12); k > 0; k--) {
            int from = next(0, 23);
            b.drag(next(0, 1), from, next(from, 23), next(0, next(0, 50)));
        }
        for (int v = 0; v <= 5; v++) {
            b.correct(v, next(-50, 50));
        }
        b.set(0, next(0, 20));
        b.set(1, next(1, 99));
        b.set(2, next(0, 200));
        b.set(3, next(1, 99));
        for (int k = next(0, 3); k > 0; k--) {
            b.shoot(next(0, 5), next(1, 50));
            if (next(0, 2) == 0) {
                b.clean(next(0, 1));
            }
        }
        return b;
    }

    private void compare(String what, ShutterBench b, int speed) {
        for (int c = 0; c <= 1; c++) {
            int without = 1000 / b.curtain(c, 0) + b.setting(0) * (b.curtain(c, 1) / 10);
            for (int k = 0; k < 24; k++) {
                takes[c][k] = without + b.column(speed, k, 4 + c);
            }
        }
        int above = b.curtain(0, 0) - b.setting(1);
        int bounced = above < 5 ? 0 : above >= 30 ? 6 : above / 5;
        shot(Math.max(0, b.speed(speed, 1) - 100 + b.speed(speed, 0)), bounced, b.setting(2));
        for (int k = 0; k < 24; k++) {
            CHECKS.same(what + ", left " + k, b.column(speed, k, 0), leftAt[k]);
            CHECKS.same(what + ", covered " + k, b.column(speed, k, 1), coveredAt[k]);
            CHECKS.same(what + ", light " + k, b.column(speed, k, 2), light[k]);
        }
        compareAll(what, b, speed);
    }

    private void compareAll(String what, ShutterBench b, int speed) {
        int wanted = b.speed(speed, 0);
        int all = 0;
        int dark = 0;
        int worst = 0;
        int[] sorted = light.clone();
        java.util.Arrays.sort(sorted);
        for (int k = 0; k < 24; k++) {
            all += light[k];
            dark += light[k] == 0 ? 1 : 0;
            CHECKS.same(what + ", error " + k, b.column(speed, k, 3), Math.abs(light[k] - wanted));
            worst = Math.abs(light[k] - wanted) > Math.abs(light[worst] - wanted) ? k : worst;
        }
        CHECKS.same(what + ", all light", b.speed(speed, 3), all);
        CHECKS.same(what + ", spread", b.speed(speed, 4), sorted[23] - sorted[0]);
        CHECKS.same(what + ", greatest error", b.speed(speed, 5), Math.abs(light[worst] - wanted));
        CHECKS.same(what + ", its column", b.speed(speed, 6), worst);
        CHECKS.same(what + ", dark columns", b.speed(speed, 7), dark);
        CHECKS.same(what + ", evenness", b.evenness(speed), sorted[23] == 0 ? 1.0 : 1.0 * sorted[0] / sorted[23]);
        int before = b.count(3);
        CHECKS.same(what + ", shot", b.shoot(speed, 1), sorted[23] - sorted[0]);
        CHECKS.same(what + ", light of the shot", b.count(1), all);
        CHECKS.same(what + ", greatest spread", b.count(3), Math.max(before, sorted[23] - sorted[0]));
    }

    /** Runs both curtains a tick at a time until the second one has covered all. */
    private void shot(int start, int bounced, int bounceTicks) {
        int left = 0;
        int covered = 0;
        int firstRan = 0;
        int secondRan = 0;
        for (int tick = 0; covered < 24 && tick < LONG; tick++) {
            if (left < 24 && firstRan == takes[0][left]) {
                leftAt[left++] = tick;
                firstRan = 0;
            }
            if (secondRan >= takes[1][covered] && covered < left) {
                coveredAt[covered++] = tick;
                secondRan = 0;
            }
            boolean bounces = left == 24 && tick < leftAt[23] + bounceTicks;
            for (int k = covered; k < left; k++) {
                light[k] += bounces && k >= 24 - bounced ? 0 : 1;
            }
            firstRan++;
            secondRan += tick >= start ? 1 : 0;
        }
    }
}
