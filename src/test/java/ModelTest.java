/** Long runs of calls on the class and on the model: each answer is the same. */
public final class ModelTest {
    private static final Checks CHECKS = new Checks();
    private static final String[] PARTS = {"0", "1*9", "2*3", "3", "4*8", "5*2", "w0:", "w1:", "c0", "c1", "w0:0",
        "6", "0*1", ";", "*", "w", "c2"};

    /** A fixed row of numbers: each run of the test makes the same calls. */
    private long seed;

    private ModelTest(long seed) {
        this.seed = seed;
    }

    public static void main(String[] args) {
        for (int run = 0; run < 60; run++) {
            new ModelTest(run).compare(run);
        }
        CHECKS.end("ModelTest");
    }

    private int next(int bound) {
        seed = seed * 6364136223846793005L + 1442695040888963407L;
        return (int) ((seed >>> 33) % bound);
    }

    /** A number of least to most, now and then one just outside, or far outside. */
    private int within(int least, int most) {
        int pick = next(60);
        if (pick == 0) {
            return least - 1;
        }
        if (pick == 1) {
            return most + 1;
        }
        if (pick == 2) {
            return next(2) == 0 ? Integer.MIN_VALUE : Integer.MAX_VALUE;
        }
        if (pick < 8) {
            return pick % 2 == 0 ? least : most;
        }
        return least + next(most - least + 1);
    }

    /** At most 500 calls an object: behind the 512th nothing is promised. */
    private void compare(int run) {
        ShutterBench bench = new ShutterBench();
        Model model = new Model();
        for (int calls = 0; calls < 400; calls++) {
            int kind = next(48);
            if (kind >= 45) {
                calls += type(bench, model);
                continue;
            }
            int a = 0;
            int b = 0;
            int c = 0;
            int d = 0;
            switch (kind % 22) {
                case 0: a = within(0, 1); b = within(1, 99); break;
                case 1: a = within(0, 1); b = within(0, 23); c = within(b < 0 || b > 23 ? 0 : b, 23); d = within(0, 50); break;
                case 2: a = within(0, 1); break;
                case 3: a = within(0, 5); b = within(-50, 50); break;
                case 4: a = within(0, 3); b = next(4) > 0 ? 1 + next(20) : within(0, 200); break;
                case 5: a = within(0, 5); b = within(1, 50); break;
                case 6: a = within(33, 126); break;
                case 7: case 8: case 9: break;
                case 10: a = within(0, 5); b = within(0, 8); break;
                case 11: a = within(0, 1); b = within(0, 3); break;
                case 12: a = within(0, 5); b = within(0, 23); c = within(0, 5); break;
                case 13: a = within(0, 4); break;
                case 14: a = within(0, 3); break;
                case 15: case 20: a = within(0, 5); break;
                case 16: a = within(0, 1); b = within(0, 5); break;
                case 17: a = within(0, 5); b = within(1, 50); c = within(0, 2); break;
                case 18: a = within(0, 5); b = next(2) == 0 ? next(80) : within(0, 999); break;
                default: break;
            }
            if (kind % 22 == 21 && next(4) > 0) {
                continue;
            }
            String call = "run " + run + " call " + calls + " kind " + kind % 22 + " of " + a + " " + b + " " + c + " " + d;
            CHECKS.same(call, ofBench(bench, kind % 22, a, b, c, d), ofModel(model, kind % 22, a, b, c, d));
        }
        CHECKS.same("run " + run + " digest", bench.digest(), model.digest());
    }

    /** Appends some parts, right ones for the most, and tells how many calls that were. */
    private int type(ShutterBench bench, Model model) {
        StringBuilder text = new StringBuilder();
        int parts = 1 + next(5);
        int most = next(3) == 0 ? PARTS.length : 10;
        for (int k = 0; k < parts; k++) {
            String part = PARTS[next(most)];
            text.append(k > 0 ? ";" : "").append(part);
            if (part.length() == 3 && part.endsWith(":")) {
                text.append(1 + next(99));
            }
        }
        CHECKS.same("clearBuffer", bench.clearBuffer(), model.clearBuffer());
        for (int k = 0; k < text.length(); k++) {
            int code = text.charAt(k);
            CHECKS.same("append", ofBench(bench, 6, code, 0, 0, 0), ofModel(model, 6, code, 0, 0, 0));
        }
        CHECKS.same("firstError of " + text, bench.firstError(), model.firstError());
        CHECKS.same("play of " + text, ofBench(bench, 9, 0, 0, 0, 0), ofModel(model, 9, 0, 0, 0, 0));
        return text.length() + 3;
    }

    private static String ofBench(ShutterBench x, int kind, int a, int b, int c, int d) {
        long[] answer = new long[1];
        String thrown = Checks.thrownBy(() -> answer[0] = callBench(x, kind, a, b, c, d));
        return thrown + " " + answer[0];
    }

    private static String ofModel(Model x, int kind, int a, int b, int c, int d) {
        long[] answer = new long[1];
        String thrown = Checks.thrownBy(() -> answer[0] = callModel(x, kind, a, b, c, d));
        return thrown + " " + answer[0];
    }

    private static long callBench(ShutterBench x, int kind, int a, int b, int c, int d) {
        switch (kind) {
            case 0: return x.wind(a, b);
            case 1: return x.drag(a, b, c, d);
            case 2: return x.clean(a);
            case 3: return x.correct(a, b);
            case 4: return x.set(a, b);
            case 5: return x.shoot(a, b);
            case 6: return x.append(a);
            case 7: return x.clearBuffer();
            case 8: return x.firstError();
            case 9: return x.play();
            case 10: return x.speed(a, b);
            case 11: return x.curtain(a, b);
            case 12: return x.column(a, b, c);
            case 13: return x.count(a);
            case 14: return x.setting(a);
            case 15: return x.bestCorrection(a);
            case 16: return x.bestSpring(a, b);
            case 17: return x.ifShot(a, b, c);
            case 18: return x.goodFor(a, b);
            case 19: return x.undo();
            case 20: return Double.doubleToLongBits(x.evenness(a));
            default: return x.digest();
        }
    }

    private static long callModel(Model x, int kind, int a, int b, int c, int d) {
        switch (kind) {
            case 0: return x.wind(a, b);
            case 1: return x.drag(a, b, c, d);
            case 2: return x.clean(a);
            case 3: return x.correct(a, b);
            case 4: return x.set(a, b);
            case 5: return x.shoot(a, b);
            case 6: return x.append(a);
            case 7: return x.clearBuffer();
            case 8: return x.firstError();
            case 9: return x.play();
            case 10: return x.speed(a, b);
            case 11: return x.curtain(a, b);
            case 12: return x.column(a, b, c);
            case 13: return x.count(a);
            case 14: return x.setting(a);
            case 15: return x.bestCorrection(a);
            case 16: return x.bestSpring(a, b);
            case 17: return x.ifShot(a, b, c);
            case 18: return x.goodFor(a, b);
            case 19: return x.undo();
            case 20: return Double.doubleToLongBits(x.evenness(a));
            default: return x.digest();
        }
    }
}
