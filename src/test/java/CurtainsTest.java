/** The edges that "Curtains", "Speeds, bounce", "Shots" and "Settings" of the document name. */
public final class CurtainsTest {
    private static final Checks CHECKS = new Checks();

    public static void main(String[] args) {
        springsRoundedDown();
        leastAndGreatestSpring();
        leastAndGreatestDrag();
        fullTensOfDust();
        sumsOfColumns();
        secondHeldUpAtColumnZero();
        secondHeldUpAtLastColumn();
        secondHeldUpWithin();
        countsFromThenOn();
        startNotBeforeTickZero();
        bounceBySpring();
        bounceRoundedDown();
        bounceOfTheFirstAlone();
        columnsThatBounceCovers();
        bounceBegins();
        bounceEnds();
        bounceTimes();
        bounceWearsOff();
        dustBehindTheTenthShot();
        wearByAllShots();
        wearBehindTheShot();
        springOfOneStays();
        errorWithoutSign();
        lastCallOfAnObject();
        CHECKS.end("CurtainsTest");
    }

    private static void same(String what, long got, long due) {
        CHECKS.same(what, got, due);
    }

    /** A bench whose springs are wound so. */
    private static ShutterBench wound(int first, int second) {
        ShutterBench b = new ShutterBench();
        b.wind(0, first);
        b.wind(1, second);
        return b;
    }

    private static int light(ShutterBench b, int speed, int column) {
        return b.column(speed, column, 2);
    }

    /** "1000 / its spring ticks", "divisions are rounded down". */
    private static void springsRoundedDown() {
        ShutterBench b = new ShutterBench();
        for (int spring = 1; spring <= 99; spring++) {
            int ticks = 0;
            while ((ticks + 1) * spring <= 1000) {
                ticks++;
            }
            b.wind(0, spring);
            b.wind(1, 100 - spring);
            same("spring " + spring, b.curtain(0, 2), 24 * ticks);
            same("spring " + spring + " at the column 0", b.column(0, 0, 0), ticks);
        }
    }

    /** "A curtain has a spring, 1 to 99, at first 50". */
    private static void leastAndGreatestSpring() {
        ShutterBench b = wound(1, 99);
        same("spring 1", b.curtain(0, 2), 24000);
        same("spring 99", b.curtain(1, 2), 240);
        same("spring 1 leaves the column 0", b.column(5, 0, 0), 1000);
        same("spring 1 leaves the column 23", b.column(5, 23, 0), 24000);
        same("held up by spring 1", b.column(5, 23, 1), 24000);
        b = wound(99, 1);
        same("spring 99 leaves the column 23", b.column(0, 23, 0), 240);
        same("spring 1 covers the column 23", b.column(0, 23, 1), 24020);
        same("spring 1 covers the column 0", b.column(0, 0, 1), 1020);
        same("at first", new ShutterBench().wind(0, 50), 50);
        same("at first", new ShutterBench().wind(1, 50), 50);
    }

    /** "at each column a drag, 0 to 50, at first 0". */
    private static void leastAndGreatestDrag() {
        ShutterBench b = new ShutterBench();
        for (int k = 0; k < 24; k++) {
            same("drag at first", b.column(0, k, 4), 0);
            same("drag at first", b.column(0, k, 5), 0);
        }
        same("drag of 0 is what they have", b.drag(0, 0, 23, 0), 0);
        same("drag of 50 everywhere", b.drag(1, 0, 23, 50), 24);
        same("drag of 50", b.curtain(1, 2), 24 * 70);
        same("drag of 50 at the column 0", light(b, 0, 0), 70);
        same("drag of 50 at the column 23", light(b, 0, 23), 20 + 24 * 50);
        same("drag of 0 at the column 23", b.drag(1, 23, 23, 0), 1);
        same("drag of 0 at the column 0", b.drag(1, 0, 0, 0), 1);
        same("drag of 0 again", b.curtain(1, 2), 24 * 70 - 100);
        same("drag of the column 0", light(b, 0, 0), 20);
        same("drag of the column 22", light(b, 0, 22), 20 + 22 * 50);
        same("drag of the column 23", light(b, 0, 23), 20 + 22 * 50);
    }

    /** "setting 0 for every full 10 of the shots since it was cleaned". */
    private static void fullTensOfDust() {
        ShutterBench b = new ShutterBench();
        b.set(3, 99);
        for (int shots = 0; shots <= 41; shots++) {
            int tens = shots < 10 ? 0 : shots < 20 ? 1 : shots < 30 ? 2 : shots < 40 ? 3 : 4;
            same("dust at first, " + shots + " shots", b.curtain(0, 2), 24 * (20 + tens));
            b.shoot(0, 1);
        }
        // 42 shots since.
        b.set(0, 20);
        same("dust of 20", b.curtain(1, 2), 24 * 100);
        b.set(0, 0);
        same("dust of 0", b.curtain(1, 2), 480);
        b.set(0, 20);
        b.clean(1);
        same("dust of a cleaned one", b.curtain(1, 2), 480);
        same("dust of the other one", b.curtain(0, 2), 24 * 100);
        b.shoot(0, 9);
        same("9 shots since", b.curtain(1, 2), 480);
        same("51 shots since", b.curtain(0, 2), 24 * 120);
    }

    /** "the sum of what it takes for the columns 0 to k". */
    private static void sumsOfColumns() {
        ShutterBench b = new ShutterBench();
        for (int k = 0; k < 24; k++) {
            b.drag(0, k, k, k + 1);
            b.drag(1, k, k, 2 * k + 2);
        }
        for (int k = 0; k < 24; k++) {
            int drags = (k + 1) * (k + 2) / 2;
            same("left " + k, b.column(3, k, 0), 20 * (k + 1) + drags);
            same("covered " + k, b.column(3, k, 1), 160 + 20 * (k + 1) + 2 * drags);
            same("light " + k, light(b, 3, k), 160 + drags);
        }
        same("starts at the tick 0", b.column(0, 0, 0), 21);
    }

    /** "it has covered a column never earlier than the first one has left it": the column 0. */
    private static void secondHeldUpAtColumnZero() {
        ShutterBench b = wound(50, 99);
        b.correct(0, -10);
        // By itself it covers the column 0 at 10 + 10, just when the first one leaves it.
        same("just not held up", b.column(0, 0, 1), 20);
        same("just no light", light(b, 0, 0), 0);
        b.correct(0, -9);
        same("one tick later", b.column(0, 0, 1), 21);
        same("one tick of light", light(b, 0, 0), 1);
        b.correct(0, -11);
        same("held up by one tick", b.column(0, 0, 1), 20);
        same("no light below 0", light(b, 0, 0), 0);
        b.drag(1, 1, 1, 30);
        same("counts from the column 0 on", b.column(0, 1, 1), 20 + 10 + 30);
        b.correct(0, -50);
        same("counts from the column 0 on, however early it starts", b.column(0, 1, 1), 20 + 10 + 30);
    }

    /** The same at the column 23. */
    private static void secondHeldUpAtLastColumn() {
        ShutterBench b = new ShutterBench();
        b.drag(0, 23, 23, 19);
        same("one tick of light", light(b, 0, 23), 1);
        same("by itself", b.column(0, 23, 1), 500);
        b.drag(0, 23, 23, 20);
        same("just no light", light(b, 0, 23), 0);
        same("just not held up", b.column(0, 23, 1), 500);
        b.drag(0, 23, 23, 21);
        same("no light below 0", light(b, 0, 23), 0);
        same("held up", b.column(0, 23, 1), 501);
        b.drag(0, 23, 23, 50);
        same("held up", b.column(0, 23, 1), 530);
        same("the column before", b.column(0, 22, 1), 480);
        same("the column before", light(b, 0, 22), 20);
        same("one column without light", b.speed(0, 7), 1);
    }

    private static void secondHeldUpWithin() {
        ShutterBench b = wound(50, 53);
        // 1000 / 53 is 18: by itself it covers the column k at 20 + 18 * (k + 1).
        same("ahead of the first one by 2 ticks a column", light(b, 0, 8), 2);
        same("just not held up", b.column(0, 9, 1), 200);
        same("just no light", light(b, 0, 9), 0);
        same("held up", b.column(0, 10, 1), 220);
        same("no light", light(b, 0, 10), 0);
        same("held up at each", b.column(0, 23, 1), 480);
        same("without light", b.speed(0, 7), 15);
        same("light together", b.speed(0, 3), 18 + 16 + 14 + 12 + 10 + 8 + 6 + 4 + 2);
    }

    /** "what it takes for the next ones counts from then on". */
    private static void countsFromThenOn() {
        ShutterBench b = wound(50, 53);
        b.drag(1, 12, 12, 7);
        // Held up until 240 at the column 11; 238 would be its own time.
        same("from then on", b.column(0, 12, 1), 240 + 18 + 7);
        same("light again", light(b, 0, 12), 5);
        same("next", b.column(0, 13, 1), 240 + 18 + 7 + 18);
        same("next", light(b, 0, 14), 1);
        same("held up again", b.column(0, 15, 1), 320);
    }

    /** "a correction of the speed, -50 to 50, at first 0, but at least at the tick 0". */
    private static void startNotBeforeTickZero() {
        ShutterBench b = new ShutterBench();
        int[] corrections = {-50, -41, -40, -39, -21, -20, -19, -1, 0, 1, 50};
        int[] starts = {0, 0, 0, 0, 0, 0, 1, 19, 20, 21, 70};
        int[] slower = {0, 0, 0, 1, 19, 20, 21, 39, 40, 41, 90};
        for (int k = 0; k < corrections.length; k++) {
            int previous = k > 0 ? corrections[k - 1] : 0;
            same("previous of the speed 0", b.correct(0, corrections[k]), 100 + previous);
            same("previous of the speed 1", b.correct(1, corrections[k]), 100 + previous);
            same("start of the speed 0 with " + corrections[k], b.speed(0, 2), starts[k]);
            same("start of the speed 1 with " + corrections[k], b.speed(1, 2), slower[k]);
            same("light of it", light(b, 0, 0), starts[k]);
            same("it tells the correction itself", b.speed(0, 1), 100 + corrections[k]);
            same("wanted light stays", b.speed(0, 0), 20);
        }
        for (int v = 2; v < 6; v++) {
            b.correct(v, -50);
            same("least start", b.speed(v, 2), 20 * (1 << v) - 50);
            b.correct(v, 50);
            same("greatest start", b.speed(v, 2), 20 * (1 << v) + 50);
        }
    }

    /** "if its spring is above setting 1": at, just above and far above. */
    private static void bounceBySpring() {
        ShutterBench b = new ShutterBench();
        int[] springs = {1, 59, 60, 61, 64, 65, 69, 70, 74, 75, 79, 80, 84, 85, 89, 90, 94, 95, 99};
        int[] columns = {0, 0, 0, 0, 0, 1, 1, 2, 2, 3, 3, 4, 4, 5, 5, 6, 6, 6, 6};
        for (int k = 0; k < springs.length; k++) {
            b.wind(0, springs[k]);
            b.wind(1, springs[k]);
            same("columns at " + springs[k], b.count(2), columns[k]);
            // The speed 5 is long enough: each of these columns loses 30 of 640.
            same("light at " + springs[k], b.speed(5, 3), 24 * 640 - 30 * columns[k]);
            same("spread at " + springs[k], b.speed(5, 4), columns[k] > 0 ? 30 : 0);
        }
        b.set(1, 99);
        same("spring 99 at 99", b.count(2), 0);
        same("spring 99 at 99", b.speed(5, 4), 0);
        b.set(1, 1);
        same("spring 99 above 1", b.count(2), 6);
        int[] low = {1, 2, 5, 6, 10, 11, 30, 31, 36};
        int[] few = {0, 0, 0, 1, 1, 2, 5, 6, 6};
        for (int k = 0; k < low.length; k++) {
            b.wind(0, low[k]);
            same("columns at " + low[k] + " above 1", b.count(2), few[k]);
        }
    }

    /** "the spring less setting 1, divided by 5, but at most 6": each spring at each setting 1. */
    private static void bounceRoundedDown() {
        for (int calm = 1; calm <= 99; calm++) {
            ShutterBench b = new ShutterBench();
            b.set(1, calm);
            for (int spring = 1; spring <= 99; spring++) {
                int columns = 0;
                while (columns < 6 && spring - calm >= 5 * (columns + 1)) {
                    columns++;
                }
                b.wind(0, spring);
                same("columns of " + spring + " above " + calm, b.count(2), columns);
            }
        }
    }

    private static void bounceOfTheFirstAlone() {
        ShutterBench b = wound(60, 99);
        same("the second one does not bounce", b.count(2), 0);
        // 16 and 10 a column: 640 less 6 a column, and nothing lost at the last one.
        same("the second one does not bounce", light(b, 5, 23), 640 - 24 * 6);
        b = wound(99, 1);
        same("the first one bounces", b.count(2), 6);
        same("the first one bounces", light(b, 0, 23), 20 + 24 * 990 - 30);
    }

    /** "it covers the last b columns again". */
    private static void columnsThatBounceCovers() {
        int[] springs = {64, 65, 70, 75, 80, 85, 90, 99};
        int[] columns = {0, 1, 2, 3, 4, 5, 6, 6};
        for (int k = 0; k < springs.length; k++) {
            ShutterBench b = wound(springs[k], springs[k]);
            for (int column = 0; column < 24; column++) {
                int lost = column >= 24 - columns[k] ? 30 : 0;
                same("column " + column + " at " + springs[k], light(b, 5, column), 640 - lost);
                same("its error", b.column(5, column, 3), lost);
            }
            same("first one that loses", b.speed(5, 6), columns[k] > 0 ? 24 - columns[k] : 0);
        }
    }

    /** "what light these columns would have got in these ticks they lose": where it begins. */
    private static void bounceBegins() {
        ShutterBench b = wound(70, 70);
        // 14 a column: the last one is left at 336; the column 22 is left at 322, and covered at 322 and the start.
        int[] starts = {0, 1, 13, 14, 15, 16, 43, 44, 45};
        int[] lights = {0, 1, 13, 14, 14, 14, 14, 14, 15};
        for (int k = 0; k < starts.length; k++) {
            b.correct(0, starts[k] - 20);
            same("the column 22, start " + starts[k], light(b, 0, 22), lights[k]);
            same("the column 21, start " + starts[k], light(b, 0, 21), starts[k]);
            same("when it is covered stays", b.column(0, 22, 1), 322 + starts[k]);
        }
    }

    /** "from then on for setting 2 ticks": where it ends. */
    private static void bounceEnds() {
        ShutterBench b = wound(65, 65);
        // 15 a column: the last one is left at 360, covered again until 390, and covered at 360 and the start.
        int[] starts = {0, 1, 2, 29, 30, 31, 32, 70};
        int[] lights = {0, 0, 0, 0, 0, 1, 2, 40};
        for (int k = 0; k < starts.length; k++) {
            b.correct(0, starts[k] - 20);
            same("the column 23, start " + starts[k], light(b, 0, 23), lights[k]);
            same("the column 22, start " + starts[k], light(b, 0, 22), starts[k]);
        }
        b.correct(0, 0);
        same("a column that bounce makes dark", b.speed(0, 7), 1);
        same("its evenness is 0", b.evenness(0) == 0.0 ? 1 : 0, 1);
    }

    private static void bounceTimes() {
        ShutterBench b = wound(99, 99);
        int[] times = {0, 1, 30, 199, 200};
        for (int time : times) {
            b.set(2, time);
            same("the column 23, bounce of " + time, light(b, 4, 23), 320 - time);
            same("the column 18, bounce of " + time, light(b, 4, 18), 320 - time);
            same("the column 17, bounce of " + time, light(b, 4, 17), 320);
            same("columns, bounce of " + time, b.count(2), 6);
        }
        // The column 18 is left at 190 and covered at 350: it loses from 240 on; the column 23 all its 160.
        same("no more than is there", light(b, 3, 18), 50);
        same("no more than is there", light(b, 3, 23), 0);
    }

    /** "columns that bounce covers now"; a shot has the bounce of the springs before its wear. */
    private static void bounceWearsOff() {
        ShutterBench b = wound(65, 65);
        b.set(3, 1);
        same("bounce before", b.count(2), 1);
        same("spread with bounce", b.shoot(5, 1), 30);
        same("bounce behind it", b.count(2), 0);
        same("spread without bounce", b.shoot(5, 1), 0);
        same("greatest spread", b.count(3), 30);
    }

    /** "Then both curtains have one shot more": the tenth shot is made without its dust. */
    private static void dustBehindTheTenthShot() {
        ShutterBench b = new ShutterBench();
        b.shoot(0, 5);
        b.clean(0);
        b.shoot(0, 4);
        same("shots since", b.curtain(1, 1), 9);
        same("shots since", b.curtain(0, 1), 4);
        same("the tenth shot", b.shoot(4, 1), 0);
        same("the eleventh shot", b.shoot(4, 1), 23);
        b.shoot(4, 3);
        same("the fifteenth shot", b.shoot(4, 1), 23);
        same("the sixteenth shot, dust on both", b.shoot(4, 1), 0);
    }

    /** "if the number of all shots so far, this one among them, is a multiple of setting 3". */
    private static void wearByAllShots() {
        int[] everies = {1, 2, 3, 20, 49, 50, 98, 99};
        for (int every : everies) {
            ShutterBench b = wound(99, 98);
            b.set(3, every);
            for (int shots = 1; shots <= 100; shots++) {
                b.shoot(shots % 6, 1);
                same("first, each " + every + ", " + shots, b.curtain(0, 0), Math.max(1, 99 - shots / every));
                same("second, each " + every + ", " + shots, b.curtain(1, 0), Math.max(1, 98 - shots / every));
            }
        }
        ShutterBench b = new ShutterBench();
        b.shoot(0, 5);
        b.set(3, 3);
        b.clean(0);
        b.clean(1);
        b.shoot(0, 1);
        same("the sixth of all shots", b.curtain(0, 0), 49);
        b.set(3, 7);
        b.shoot(1, 1);
        same("the seventh of all shots", b.curtain(0, 0), 48);
        b.set(3, 25);
        b.shoot(2, 17);
        same("24 shots", b.curtain(1, 0), 48);
        b.shoot(2, 26);
        same("25 and 50 in one call", b.curtain(1, 0), 46);
        b.undo();
        b.shoot(2, 25);
        same("25 of 49 in one call", b.curtain(1, 0), 47);
    }

    private static void wearBehindTheShot() {
        ShutterBench b = wound(48, 47);
        b.set(3, 1);
        // 20 and 21 ticks; then, with 47 and 46, 21 both.
        same("spread of the shot", b.shoot(5, 1), 23);
        same("light of the shot", b.count(1), 24 * 640 + 300);
        same("springs behind it", b.curtain(0, 0) * 100 + b.curtain(1, 0), 4746);
        same("spread of the next", b.shoot(5, 1), 0);
        same("light of the next", b.count(1), 24 * 640);
    }

    /** "but not below 1". */
    private static void springOfOneStays() {
        ShutterBench b = wound(1, 2);
        b.set(3, 1);
        b.shoot(0, 1);
        same("1 stays", b.curtain(0, 0), 1);
        same("2 is 1", b.curtain(1, 0), 1);
        b.shoot(0, 50);
        same("1 stays", b.curtain(0, 0), 1);
        same("1 stays", b.curtain(1, 0), 1);
        same("all its ticks", b.curtain(1, 2), 24 * 1005);
    }

    /** "its light less that, without its sign", "the greatest light of a column less the least one". */
    private static void errorWithoutSign() {
        ShutterBench b = new ShutterBench();
        b.drag(1, 1, 1, 7);
        b.drag(0, 2, 2, 14);
        b.drag(1, 3, 3, 7);
        int[] lights = {160, 167, 153, 160};
        int[] errors = {0, 7, 7, 0};
        for (int k = 0; k < 4; k++) {
            same("light " + k, light(b, 3, k), lights[k]);
            same("error " + k, b.column(3, k, 3), errors[k]);
        }
        same("spread", b.speed(3, 4), 14);
        same("greatest error", b.speed(3, 5), 7);
        same("the first one of more and less", b.speed(3, 6), 1);
        b.correct(3, 1);
        same("the wanted light is without the correction", b.column(3, 0, 3), 1);
        same("the wanted light is without the correction", b.column(3, 2, 3), 6);
    }

    /** "An object is used for at most 512 calls": the last one of them is as good as the first. */
    private static void lastCallOfAnObject() {
        ShutterBench b = new ShutterBench();
        b.set(0, 20);
        b.set(3, 99);
        for (int calls = 3; calls <= 506; calls++) {
            b.shoot(5, 50);
        }
        // 25200 shots; the springs have lost 254 times, and are 1.
        same("all shots", b.count(0), 25200);
        same("shots with the speed", b.speed(5, 8), 25200);
        same("first", b.clean(0), 25200);
        same("ticks", b.curtain(1, 2), 24 * (1000 + 20 * 2520));
        same("light of all columns", b.speed(5, 3), 24 * 640 + 50400 * 300);
        same("the 512th call", light(b, 5, 23), 640 + 24 * 50400);
    }
}
