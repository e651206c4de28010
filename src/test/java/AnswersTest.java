import java.math.BigInteger;
import java.util.ArrayList;
import java.util.List;

/** The edges that the promises 13 to 23 name: first ones, least ones, none, all, and the digest's arithmetic. */
public final class AnswersTest {
    private static final Checks CHECKS = new Checks();

    public static void main(String[] args) {
        slowestColumn();
        ticksByItself();
        columnsAtTheEnds();
        worstColumn();
        columnsWithoutLight();
        noShotSoFar();
        darkShots();
        greatestSpreadOfAll();
        eachSpeedCounts();
        settingsAtTheirEnds();
        correctionAtItsEnds();
        leastOfSeveralCorrections();
        errorsTogether();
        springAtItsEnds();
        leastOfSeveralSprings();
        spreadOfTheLast();
        springBehindShots();
        goodForNoneAndAll();
        goodForErrors();
        evennessAtItsEnds();
        evennessIsExact();
        digestOfANewOne();
        digestOverflows();
        digestOfLongTexts();
        digestParts();
        CHECKS.end("AnswersTest");
    }

    private static void same(String what, long got, long due) {
        CHECKS.same(what, got, due);
    }

    private static ShutterBench wound(int first, int second) {
        ShutterBench b = new ShutterBench();
        b.wind(0, first);
        b.wind(1, second);
        return b;
    }

    /** "the column for which it takes most, of several the first one". */
    private static void slowestColumn() {
        for (int c = 0; c <= 1; c++) {
            ShutterBench b = new ShutterBench();
            same("all alike", b.curtain(c, 3), 0);
            b.drag(c, 23, 23, 1);
            same("the last one", b.curtain(c, 3), 23);
            b.drag(c, 22, 22, 1);
            same("the first of the last two", b.curtain(c, 3), 22);
            b.drag(c, 0, 0, 1);
            same("the first of three", b.curtain(c, 3), 0);
            b.drag(c, 0, 22, 0);
            same("the last one again", b.curtain(c, 3), 23);
            b.drag(c, 0, 23, 50);
            same("all alike", b.curtain(c, 3), 0);
            b.drag(c, 0, 0, 49);
            same("all but the first one", b.curtain(c, 3), 1);
            same("the other curtain", b.curtain(1 - c, 3), 0);
        }
    }

    /** "the ticks that it takes for all columns, by itself". */
    private static void ticksByItself() {
        ShutterBench b = wound(1, 99);
        b.correct(0, 50);
        same("not held up", b.curtain(1, 2), 240);
        b.drag(1, 23, 23, 50);
        b.drag(1, 0, 0, 50);
        same("with drag", b.curtain(1, 2), 340);
        same("the first one", b.curtain(0, 2), 24000);
    }

    private static void columnsAtTheEnds() {
        ShutterBench b = new ShutterBench();
        b.drag(0, 0, 0, 1);
        b.drag(0, 23, 23, 2);
        b.drag(1, 0, 0, 4);
        b.drag(1, 23, 23, 8);
        int[] first = {21, 20 + 24, 23, 3, 1, 4};
        int[] last = {483, 20 + 492, 29, 9, 2, 8};
        int[] longest = {483, 640 + 492, 649, 9, 2, 8};
        for (int what = 0; what <= 5; what++) {
            same("speed 0, column 0, " + what, b.column(0, 0, what), first[what]);
            same("speed 0, column 23, " + what, b.column(0, 23, what), last[what]);
            same("speed 5, column 23, " + what, b.column(5, 23, what), longest[what]);
        }
    }

    /** "the column with the greatest error, of several the first one". */
    private static void worstColumn() {
        ShutterBench b = new ShutterBench();
        same("no error", b.speed(3, 6), 0);
        same("no error", b.speed(3, 5), 0);
        b.drag(1, 23, 23, 1);
        same("the last one", b.speed(3, 6), 23);
        same("the last one", b.speed(3, 5), 1);
        b.drag(1, 23, 23, 0);
        b.drag(1, 5, 5, 10);
        b.drag(0, 12, 12, 20);
        same("more, then less by as much", b.speed(3, 6), 5);
        same("error of it", b.speed(3, 5), 10);
        b.drag(0, 12, 12, 21);
        same("more, then less by more", b.speed(3, 6), 12);
        same("error of it", b.speed(3, 5), 11);
        ShutterBench c = new ShutterBench();
        c.drag(0, 5, 5, 10);
        c.drag(1, 12, 12, 20);
        same("less, then more by as much", c.speed(3, 6), 5);
        c.drag(1, 12, 12, 21);
        same("less, then more by more", c.speed(3, 6), 12);
        c.correct(3, 50);
        c.drag(0, 0, 23, 0);
        c.drag(1, 0, 23, 0);
        same("all alike", c.speed(3, 6), 0);
        same("all alike", c.speed(3, 5), 50);
    }

    private static void columnsWithoutLight() {
        ShutterBench b = new ShutterBench();
        same("none", b.speed(0, 7), 0);
        b.drag(0, 23, 23, 20);
        same("the last one", b.speed(0, 7), 1);
        b.drag(0, 0, 0, 19);
        same("one tick of light is light", b.speed(0, 7), 1);
        b.drag(0, 0, 0, 20);
        same("all", b.speed(0, 7), 24);
        same("no light together", b.speed(0, 3), 0);
        same("no spread", b.speed(0, 4), 0);
        same("the wanted light is the error", b.speed(0, 5), 20);
        same("the first one", b.speed(0, 6), 0);
        same("of a longer speed the last one", b.speed(1, 7), 1);
        same("of one still longer none", b.speed(2, 7), 0);
    }

    /** "the light of all columns together of the last shot, 0 without one". */
    private static void noShotSoFar() {
        ShutterBench b = new ShutterBench();
        b.wind(1, 9);
        b.drag(0, 3, 3, 40);
        b.ifShot(5, 50, 0);
        b.goodFor(5, 999);
        same("shots", b.count(0), 0);
        same("light", b.count(1), 0);
        same("greatest spread", b.count(3), 0);
        b.shoot(5, 1);
        same("light is of a shot", b.count(1) > 0 ? 1 : 0, 1);
        b.undo();
        same("light without one again", b.count(1), 0);
        same("greatest spread without one again", b.count(3), 0);
    }

    private static void darkShots() {
        ShutterBench b = new ShutterBench();
        b.shoot(5, 1);
        same("light", b.count(1), 24 * 640);
        b.correct(0, -20);
        same("spread of a dark shot", b.shoot(0, 1), 0);
        same("light of a dark shot", b.count(1), 0);
        same("greatest spread of even ones", b.count(3), 0);
        same("shots", b.count(0), 2);
    }

    /** "the greatest spread of a shot so far": also of one within a call. */
    private static void greatestSpreadOfAll() {
        ShutterBench b = wound(48, 47);
        b.set(3, 1);
        same("spread of the last one", b.shoot(5, 2), 0);
        same("greatest is of the first one", b.count(3), 23);
        b.set(3, 99);
        b.wind(0, 50);
        b.wind(1, 50);
        b.drag(1, 23, 23, 24);
        same("one that would be is none", b.speed(0, 4), 24);
        same("one that would be is none", b.count(3), 23);
        b.drag(1, 23, 23, 22);
        same("a shot of less", b.shoot(5, 1), 22);
        same("a shot of less", b.count(3), 23);
        b.drag(1, 23, 23, 24);
        same("a shot of more", b.shoot(0, 1), 24);
        same("a shot of more", b.count(3), 24);
    }

    private static void eachSpeedCounts() {
        ShutterBench b = new ShutterBench();
        for (int v = 0; v <= 5; v++) {
            b.shoot(v, v + 1);
        }
        for (int v = 0; v <= 5; v++) {
            same("shots with " + v, b.speed(v, 8), v + 1);
            same("wanted of " + v, b.speed(v, 0), 20 * (1 << v));
        }
        same("all shots", b.count(0), 21);
        same("light of the last one", b.count(1), 24 * 640);
    }

    private static void settingsAtTheirEnds() {
        int[] first = {1, 60, 30, 20};
        int[] least = {0, 1, 0, 1};
        int[] most = {20, 99, 200, 99};
        ShutterBench b = new ShutterBench();
        for (int s = 0; s <= 3; s++) {
            same("at first", b.setting(s), first[s]);
            same("previous", b.set(s, least[s]), first[s]);
            same("least", b.setting(s), least[s]);
        }
        for (int s = 0; s <= 3; s++) {
            same("previous", b.set(s, most[s]), least[s]);
            same("most", b.setting(s), most[s]);
        }
    }

    private static void correctionAtItsEnds() {
        ShutterBench b = new ShutterBench();
        b.drag(1, 0, 0, 49);
        same("just above the least", b.bestCorrection(5), 51);
        b.drag(1, 0, 0, 50);
        same("the least", b.bestCorrection(5), 50);
        b.drag(1, 1, 1, 50);
        same("no less than the least", b.bestCorrection(5), 50);
        b.drag(1, 0, 1, 0);
        b.drag(0, 0, 0, 49);
        same("just below the most", b.bestCorrection(5), 149);
        b.drag(0, 0, 0, 50);
        same("the most", b.bestCorrection(5), 150);
        b.drag(0, 1, 1, 50);
        same("no more than the most", b.bestCorrection(5), 150);
        same("the correction stays", b.speed(5, 1), 100);
    }

    /** "of several the least". */
    private static void leastOfSeveralCorrections() {
        ShutterBench b = new ShutterBench();
        b.drag(1, 12, 12, 10);
        same("half of them", b.bestCorrection(2), 90);
        b.drag(1, 12, 12, 0);
        b.drag(1, 11, 11, 10);
        same("more than half", b.bestCorrection(2), 90);
        b.drag(1, 11, 11, 0);
        b.drag(1, 13, 13, 10);
        same("less than half", b.bestCorrection(2), 100);
        b.correct(2, 50);
        same("whatever it is now", b.bestCorrection(2), 100);
        // All starts of the speed 0 up to the tick 0 are alike, and its light is too much for each.
        ShutterBench c = new ShutterBench();
        c.drag(1, 0, 0, 21);
        same("each of -50 to -20", c.bestCorrection(0), 50);
        c.drag(1, 0, 0, 20);
        same("each of -50 to -20", c.bestCorrection(0), 50);
        c.drag(1, 0, 0, 19);
        same("-19 alone", c.bestCorrection(0), 81);
        // No correction brings light behind a first curtain that is so slow.
        c.wind(0, 1);
        same("all alike", c.bestCorrection(3), 50);
    }

    /** "the errors of all columns together", not the greatest one. */
    private static void errorsTogether() {
        ShutterBench b = new ShutterBench();
        b.drag(1, 23, 23, 50);
        same("one column is off", b.bestCorrection(4), 100);
        ShutterBench c = wound(99, 99);
        // Bounce takes 30 from six columns; a drag of the first curtain 30 from six more.
        c.drag(0, 12, 12, 30);
        c.drag(1, 18, 18, 30);
        same("light", c.column(4, 12, 2) * 1000 + c.column(4, 18, 2), 290290);
        same("half of them", c.bestCorrection(4), 100);
        c.drag(0, 12, 12, 0);
        c.drag(0, 11, 11, 30);
        same("more than half", c.bestCorrection(4), 130);
    }

    private static void springAtItsEnds() {
        ShutterBench b = wound(50, 99);
        // The second curtain waits at each column for a first one so slow: no light, and none of it uneven.
        same("no light at all is even", b.bestSpring(0, 5), 1);
        same("no light at all is even", b.bestSpring(0, 0), 1);
        same("the spring stays", b.curtain(0, 0), 50);
        // The second curtain takes 20, 300 of dust and 13 of drag: 333, as a first one with a spring of 3.
        b.set(0, 20);
        for (int k = 0; k < 3; k++) {
            b.shoot(5, 50);
        }
        b.clean(0);
        b.wind(1, 50);
        b.drag(1, 0, 23, 13);
        same("takes 333", b.curtain(1, 2), 24 * 333);
        same("dark with a spring of 1", b.bestSpring(0, 5), 1);
        b.correct(5, 50);
        // With a spring of 1 the column 0 has 690 + 333 - 1000 now, and the others none.
        same("as slow as the second one", b.bestSpring(0, 5), 3);
        b.correct(5, 27);
        same("just dark with a spring of 1", b.bestSpring(0, 5), 1);
        b.correct(5, 28);
        same("just not dark", b.bestSpring(0, 5), 3);
        ShutterBench c = wound(1, 50);
        same("as slow as the first one", c.bestSpring(1, 5), 1);
        same("as slow as the first one", c.bestSpring(1, 0), 1);
        c.wind(0, 2);
        same("as slow as the first one", c.bestSpring(1, 5), 2);
        c.wind(0, 98);
        c.set(2, 0);
        same("as fast as the first one", c.bestSpring(1, 5), 91);
    }

    private static void leastOfSeveralSprings() {
        ShutterBench b = new ShutterBench();
        same("48 is as fast as 50", b.bestSpring(1, 5), 48);
        b.correct(0, -50);
        // Faster ones are held up and as even; slower ones are not.
        same("start at the tick 0", b.bestSpring(1, 0), 48);
        same("no light at all is even", b.bestSpring(0, 0), 1);
        same("nor is it with another speed", b.bestSpring(0, 5), 1);
        b.wind(0, 33);
        same("33 takes 30 ticks", b.bestSpring(1, 5), 33);
        b.wind(0, 34);
        same("34 takes 29 ticks", b.bestSpring(1, 5), 34);
        b.wind(0, 35);
        same("35 takes 28 ticks", b.bestSpring(1, 5), 35);
        b.wind(0, 44);
        same("44 takes 22 ticks", b.bestSpring(1, 5), 44);
        b.wind(0, 45);
        same("45 takes 22 ticks too", b.bestSpring(1, 5), 44);
    }

    /** "the spread of the last one", "the greatest error of the last one". */
    private static void spreadOfTheLast() {
        ShutterBench b = wound(48, 47);
        b.set(3, 1);
        same("spread of one", b.ifShot(5, 1, 0), 23);
        same("error of one", b.ifShot(5, 1, 2), 24);
        same("spread of two", b.ifShot(5, 2, 0), 0);
        same("error of two", b.ifShot(5, 2, 2), 0);
        same("nothing is shot", b.count(0), 0);
        same("nothing is saved", b.count(4), 3);
        for (int shots = 1; shots <= 50; shots++) {
            int spread = b.ifShot(3, shots, 0);
            int error = b.ifShot(3, shots, 2);
            same("spread of " + shots, b.shoot(3, shots), spread);
            b.undo();
            if (shots > 1) {
                b.shoot(3, shots - 1);
                same("spread before the last of " + shots, b.speed(3, 4), spread);
                same("error before the last of " + shots, b.speed(3, 5), error);
                b.undo();
            }
        }
    }

    private static void springBehindShots() {
        ShutterBench b = wound(52, 40);
        b.set(3, 1);
        same("behind one", b.ifShot(0, 1, 1), 51);
        same("behind 49", b.ifShot(0, 49, 1), 3);
        same("behind 50", b.ifShot(0, 50, 1), 2);
        b.wind(0, 51);
        same("behind 50", b.ifShot(5, 50, 1), 1);
        b.wind(0, 50);
        same("not below 1", b.ifShot(5, 50, 1), 1);
        same("not below 1", b.ifShot(5, 49, 1), 1);
        b.set(3, 99);
        b.shoot(0, 49);
        same("99 shots with these", b.ifShot(0, 49, 1), 50);
        same("99 shots with these", b.ifShot(0, 50, 1), 49);
    }

    /** "how many shots with this speed, 0 to 200": 98 or 97 shots so far, and springs that lose 1 each 99 shots. */
    private static void goodForNoneAndAll() {
        for (int before = 97; before <= 98; before++) {
            ShutterBench b = new ShutterBench();
            b.set(0, 0);
            b.set(1, 99);
            b.set(3, 99);
            b.shoot(5, 49);
            b.shoot(5, before - 49);
            b.wind(0, 99);
            b.wind(1, 50);
            // The first one takes 10 all the time; the second 20, and 21 when it has lost 3: behind 297 shots.
            same("none", b.goodFor(5, 239), 0);
            same("until the springs have lost 3", b.goodFor(5, 240), before == 98 ? 199 : 200);
            same("until the springs have lost 3", b.goodFor(5, 263), before == 98 ? 199 : 200);
            same("all", b.goodFor(5, 264), 200);
            same("all", b.goodFor(5, 999), 200);
            b.wind(1, 48);
            same("until the springs have lost 1", b.goodFor(5, 240), 99 - before);
            same("until the springs have lost 3", b.goodFor(5, 264), before == 98 ? 199 : 200);
            same("nothing is shot", b.count(0), before);
            same("nothing is worn", b.curtain(1, 0), 48);
        }
        ShutterBench c = wound(48, 47);
        c.set(3, 1);
        same("later ones do not count", c.goodFor(5, 0), 0);
        same("later ones do not count", c.goodFor(5, 23), 0);
        same("with the first one", c.goodFor(5, 24) > 1 ? 1 : 0, 1);
    }

    private static void goodForErrors() {
        ShutterBench b = new ShutterBench();
        same("error of 0", b.goodFor(0, 0), 200);
        b.drag(1, 0, 18, 50);
        b.drag(1, 19, 19, 49);
        same("greatest error", b.speed(0, 5), 999);
        same("error of just 999", b.goodFor(0, 999), 200);
        same("error of 998", b.goodFor(0, 998), 0);
        b.drag(1, 20, 20, 1);
        same("greatest error", b.speed(0, 5), 1000);
        same("error of 1000", b.goodFor(0, 999), 0);
        ShutterBench c = new ShutterBench();
        c.correct(1, 1);
        same("error of 1", c.goodFor(1, 0), 0);
        same("error of 1", c.goodFor(1, 1), 200);
        c.correct(1, -1);
        same("error of 1, less light", c.goodFor(1, 0), 0);
        same("error of 1, less light", c.goodFor(1, 1), 200);
    }

    /** "divided by the greatest one; 1.0 if that is 0". */
    private static void evennessAtItsEnds() {
        ShutterBench b = new ShutterBench();
        CHECKS.same("all alike", b.evenness(0), 1.0);
        CHECKS.same("all alike", b.evenness(5), 1.0);
        b.correct(0, -19);
        CHECKS.same("all 1", b.evenness(0), 1.0);
        b.correct(0, -20);
        CHECKS.same("all 0", b.evenness(0), 1.0);
        b.correct(0, -50);
        CHECKS.same("all 0", b.evenness(0), 1.0);
        b.drag(1, 23, 23, 1);
        CHECKS.same("one has 1, the others 0", b.evenness(0), 0.0);
        b.correct(0, -19);
        CHECKS.same("one has 2, the others 1", b.evenness(0), 0.5);
        b.drag(1, 0, 0, 1);
        CHECKS.same("two thirds", b.evenness(0), 2.0 / 3.0);
        b.drag(1, 23, 23, 0);
        CHECKS.same("all 2", b.evenness(0), 1.0);
    }

    private static double shareOf(ShutterBench b, int speed) {
        int least = Integer.MAX_VALUE;
        int most = 0;
        for (int k = 0; k < 24; k++) {
            least = Math.min(least, b.column(speed, k, 2));
            most = Math.max(most, b.column(speed, k, 2));
        }
        return most == 0 ? 1.0 : (double) least / (double) most;
    }

    private static void evennessIsExact() {
        for (int correction = -50; correction <= 50; correction++) {
            ShutterBench b = wound(50, 37);
            b.drag(0, 0, 0, 37);
            b.correct(2, correction);
            double due = shareOf(b, 2);
            CHECKS.same("correction " + correction, b.evenness(2), due);
            same("bits, correction " + correction, b.digest(), digestOf(b, ""));
            b.wind(1, 1);
            CHECKS.same("slow, correction " + correction, b.evenness(2), shareOf(b, 2));
            same("bits, slow, correction " + correction, b.digest(), digestOf(b, ""));
        }
        // Bounce takes up to 200 of the last column's light: shares of very little.
        for (int correction = -50; correction <= 50; correction++) {
            ShutterBench b = wound(65, 65);
            b.set(2, 200);
            b.correct(2, correction);
            b.drag(1, 23, 23, 50);
            b.drag(1, 0, 0, 50);
            b.drag(1, 22, 22, 50);
            CHECKS.same("bounce, correction " + correction, b.evenness(2), shareOf(b, 2));
            same("bits, bounce, correction " + correction, b.digest(), digestOf(b, ""));
        }
        ShutterBench c = wound(50, 1);
        c.drag(0, 0, 0, 0);
        c.correct(2, -50);
        CHECKS.same("a little", c.evenness(2), (double) (30 + 980) / (double) (30 + 24 * 980));
        same("bits of a little", c.digest(), digestOf(c, ""));
    }

    /** The digest by the other calls, in numbers of any length, cut to 64 bits at the end. */
    private static long digestOf(ShutterBench b, String buffer) {
        List<Long> values = new ArrayList<>();
        for (int what = 0; what <= 4; what++) {
            values.add((long) b.count(what));
        }
        for (int s = 0; s <= 3; s++) {
            values.add((long) b.setting(s));
        }
        for (int c = 0; c <= 1; c++) {
            for (int what = 0; what <= 3; what++) {
                values.add((long) b.curtain(c, what));
            }
            for (int k = 0; k <= 23; k++) {
                values.add((long) b.column(0, k, 4 + c));
            }
        }
        for (int v = 0; v <= 5; v++) {
            for (int what = 0; what <= 8; what++) {
                values.add((long) b.speed(v, what));
            }
        }
        for (int k : new int[] {0, 11, 23}) {
            for (int what = 0; what <= 3; what++) {
                values.add((long) b.column(2, k, what));
            }
        }
        values.add((long) b.bestCorrection(1));
        values.add((long) b.bestSpring(1, 2));
        for (int what = 0; what <= 2; what++) {
            values.add((long) b.ifShot(0, 9, what));
        }
        values.add((long) b.goodFor(3, 60));
        values.add(Double.doubleToLongBits(b.evenness(2)));
        values.add((long) buffer.length());
        for (int k = 0; k < buffer.length(); k++) {
            values.add((long) buffer.charAt(k));
        }
        BigInteger hash = BigInteger.valueOf(3191);
        for (long value : values) {
            hash = hash.multiply(BigInteger.valueOf(31)).add(BigInteger.valueOf(value));
        }
        return hash.longValue();
    }

    private static void digestOfANewOne() {
        ShutterBench b = new ShutterBench();
        same("new", b.digest(), digestOf(b, ""));
        same("two new ones", b.digest(), new ShutterBench().digest());
        same("asked again", b.digest(), digestOf(b, ""));
    }

    /** "in long arithmetic with overflow". */
    private static void digestOverflows() {
        ShutterBench b = new ShutterBench();
        b.set(0, 20);
        for (int k = 0; k < 200; k++) {
            b.shoot(k % 6, 50);
        }
        b.clean(0);
        same("great numbers", b.digest(), digestOf(b, ""));
        b.clean(1);
        b.wind(0, 1);
        same("dark ones", b.digest(), digestOf(b, ""));
    }

    private static void digestOfLongTexts() {
        ShutterBench b = new ShutterBench();
        StringBuilder text = new StringBuilder();
        for (int k = 0; k < 60; k++) {
            char code = (char) (k % 2 == 0 ? 126 - k : 33 + k);
            b.append(code);
            text.append(code);
            same("text of " + (k + 1), b.digest(), digestOf(new ShutterBench(), text.toString()));
        }
        b.clearBuffer();
        same("no text", b.digest(), digestOf(new ShutterBench(), ""));
    }

    /** Each value by a bench at which it is unlike its neighbours: another speed, curtain, number or error. */
    private static void digestParts() {
        for (int shots = 1; shots <= 50; shots++) {
            ShutterBench b = wornBy(shots);
            same("behind " + shots, b.digest(), digestOf(b, ""));
        }
        for (int drag = 0; drag <= 50; drag++) {
            ShutterBench c = new ShutterBench();
            c.drag(1, 0, 0, drag);
            c.correct(3, 50 - drag / 2);
            c.correct(2, -drag);
            c.wind(1, 50 + drag % 3);
            c.set(3, 1 + drag);
            same("drag of " + drag, c.digest(), digestOf(c, ""));
        }
    }

    private static ShutterBench wornBy(int shots) {
        ShutterBench b = wound(57, 43);
        b.set(0, 7);
        b.set(3, 2);
        b.drag(0, 2, 4, 13);
        b.drag(1, 9, 15, 3);
        int[] corrections = {-7, 23, -31, 12, 45, -50};
        for (int v = 0; v <= 5; v++) {
            b.correct(v, corrections[v]);
        }
        b.shoot(1, 3);
        b.clean(0);
        b.shoot(shots % 6, shots);
        return b;
    }
}
