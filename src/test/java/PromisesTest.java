/** Each promise by numbers worked out by hand: ordinary inputs, edges, and wrong inputs. */
public final class PromisesTest {
    private static final Checks CHECKS = new Checks();
    private static final int[] BEYOND = {Integer.MIN_VALUE, -1, 1000, Integer.MAX_VALUE};

    public static void main(String[] args) {
        newObject();
        wind();
        drag();
        clean();
        correct();
        set();
        shoot();
        wear();
        append();
        clearBuffer();
        firstError();
        play();
        undo();
        curtain();
        column();
        bounce();
        speed();
        count();
        setting();
        bestCorrection();
        bestSpring();
        ifShot();
        goodFor();
        evenness();
        digest();
        digestOfError();
        CHECKS.end("PromisesTest");
    }

    private static void same(String what, long got, long due) {
        CHECKS.same(what, got, due);
    }

    /** Appends the characters of a text. */
    private static void type(ShutterBench bench, String text) {
        for (int k = 0; k < text.length(); k++) {
            bench.append(text.charAt(k));
        }
    }

    private static int errorOf(String text) {
        ShutterBench bench = new ShutterBench();
        type(bench, text);
        return bench.firstError();
    }

    private static void newObject() {
        ShutterBench b = new ShutterBench();
        for (int c = 0; c < 2; c++) {
            same("1 spring", b.curtain(c, 0), 50);
            same("1 shots since cleaned", b.curtain(c, 1), 0);
            same("1 ticks", b.curtain(c, 2), 480);
            same("1 slowest", b.curtain(c, 3), 0);
        }
        int[] settings = {1, 60, 30, 20};
        for (int s = 0; s < 4; s++) {
            same("1 setting", b.setting(s), settings[s]);
        }
        for (int what = 0; what < 5; what++) {
            same("1 count " + what, b.count(what), 0);
        }
        for (int v = 0; v < 6; v++) {
            same("1 correction", b.speed(v, 1), 100);
            same("1 shots with", b.speed(v, 8), 0);
        }
        same("1 no text", b.clearBuffer(), 0);
        same("1 digest", b.digest(), 7225317749561298181L + digestOfCleaned());
        ShutterBench other = new ShutterBench();
        other.wind(0, 7);
        same("1 objects are apart", b.curtain(0, 0), 50);
    }

    /** The shared tests tell the digest of a new object with one saved state: count(4) is then 1. */
    private static long digestOfCleaned() {
        long hash = 1;
        ShutterBench b = new ShutterBench();
        b.clean(1);
        same("23 digest with a saved state", b.digest(), 7225317749561298181L);
        for (int k = 0; k < valuesBehindCounts(); k++) {
            hash *= 31;
        }
        return -hash;
    }

    private static int valuesBehindCounts() {
        return 4 + 2 * 28 + 6 * 9 + 3 * 4 + 1 + 1 + 3 + 1 + 1 + 1;
    }

    private static void wind() {
        ShutterBench b = new ShutterBench();
        same("2 previous", b.wind(0, 99), 50);
        same("2 previous", b.wind(0, 1), 99);
        same("2 previous", b.wind(1, 40), 50);
        same("2 spring", b.curtain(0, 0), 1);
        same("2 other spring", b.curtain(1, 0), 40);
        same("2 same spring is saved too", b.wind(1, 40), 40);
        same("2 undoable", b.count(4), 4);
        CHECKS.outside("2 curtain", b, () -> b.wind(2, 50));
        CHECKS.outside("2 curtain", b, () -> b.wind(-1, 50));
        CHECKS.outside("2 first exception", b, () -> b.wind(2, 0));
        CHECKS.illegal("2 spring", b, () -> b.wind(0, 0));
        CHECKS.illegal("2 spring", b, () -> b.wind(1, 100));
        for (int beyond : BEYOND) {
            CHECKS.outside("2 curtain", b, () -> b.wind(beyond, 1));
            CHECKS.illegal("2 spring", b, () -> b.wind(0, beyond));
        }
    }

    private static void drag() {
        ShutterBench b = new ShutterBench();
        same("3 changed", b.drag(0, 0, 23, 50), 24);
        same("3 changed", b.drag(0, 3, 5, 7), 3);
        same("3 changed partly", b.drag(0, 0, 4, 7), 3);
        same("3 none changed", b.drag(0, 0, 5, 7), 0);
        same("3 one column", b.drag(1, 23, 23, 1), 1);
        same("3 undoable", b.count(4), 5);
        same("3 drag", b.column(0, 5, 4), 7);
        same("3 drag", b.column(0, 6, 4), 50);
        same("3 other curtain", b.column(0, 5, 5), 0);
        same("3 other curtain", b.column(0, 23, 5), 1);
        CHECKS.outside("3 curtain", b, () -> b.drag(2, 0, 0, 0));
        CHECKS.outside("3 curtain", b, () -> b.drag(-1, 0, 0, 0));
        CHECKS.outside("3 first exception", b, () -> b.drag(2, -1, 24, 51));
        CHECKS.illegal("3 from", b, () -> b.drag(0, -1, 5, 0));
        CHECKS.illegal("3 from", b, () -> b.drag(0, 24, 24, 0));
        CHECKS.illegal("3 to", b, () -> b.drag(0, 5, 4, 0));
        CHECKS.illegal("3 to", b, () -> b.drag(0, 5, 24, 0));
        CHECKS.illegal("3 drag", b, () -> b.drag(0, 0, 0, -1));
        CHECKS.illegal("3 drag", b, () -> b.drag(0, 0, 0, 51));
        for (int beyond : BEYOND) {
            CHECKS.illegal("3 from", b, () -> b.drag(0, beyond, 23, 0));
            CHECKS.illegal("3 to", b, () -> b.drag(0, 0, beyond, 0));
            CHECKS.illegal("3 drag", b, () -> b.drag(0, 0, 23, beyond));
        }
    }

    private static void clean() {
        ShutterBench b = new ShutterBench();
        b.shoot(0, 12);
        same("4 shots", b.clean(1), 12);
        same("4 cleaned", b.curtain(1, 1), 0);
        same("4 other", b.curtain(0, 1), 12);
        same("4 cleaned twice", b.clean(1), 0);
        same("4 undoable", b.count(4), 3);
        b.shoot(1, 3);
        same("4 shots since", b.clean(1), 3);
        same("4 shots since", b.clean(0), 15);
        same("4 all shots stay", b.count(0), 15);
        CHECKS.outside("4 curtain", b, () -> b.clean(2));
        for (int beyond : BEYOND) {
            CHECKS.outside("4 curtain", b, () -> b.clean(beyond));
        }
    }

    private static void correct() {
        ShutterBench b = new ShutterBench();
        same("5 previous", b.correct(0, -50), 100);
        same("5 previous", b.correct(0, 50), 50);
        same("5 previous", b.correct(0, 3), 150);
        same("5 previous", b.correct(5, 0), 100);
        same("5 correction", b.speed(0, 1), 103);
        same("5 start", b.speed(0, 2), 23);
        same("5 other speed", b.speed(1, 2), 40);
        same("5 undoable", b.count(4), 4);
        CHECKS.outside("5 speed", b, () -> b.correct(6, 0));
        CHECKS.outside("5 speed", b, () -> b.correct(-1, 0));
        CHECKS.outside("5 first exception", b, () -> b.correct(6, 51));
        CHECKS.illegal("5 correction", b, () -> b.correct(0, 51));
        CHECKS.illegal("5 correction", b, () -> b.correct(5, -51));
        CHECKS.illegal("5 correction", b, () -> b.correct(5, Integer.MIN_VALUE));
        CHECKS.illegal("5 correction", b, () -> b.correct(5, Integer.MAX_VALUE));
    }

    private static void set() {
        int[] least = {0, 1, 0, 1};
        int[] most = {20, 99, 200, 99};
        for (int k = 0; k < 4; k++) {
            int s = k;
            ShutterBench b = new ShutterBench();
            int first = b.setting(s);
            same("6 previous", b.set(s, least[s]), first);
            same("6 previous", b.set(s, most[s]), least[s]);
            same("6 value", b.setting(s), most[s]);
            same("6 same value", b.set(s, most[s]), most[s]);
            same("6 undoable", b.count(4), 3);
            CHECKS.illegal("6 too little", b, () -> b.set(s, least[s] - 1));
            CHECKS.illegal("6 too much", b, () -> b.set(s, most[s] + 1));
            for (int beyond : BEYOND) {
                CHECKS.illegal("6 value", b, () -> b.set(s, beyond));
                CHECKS.outside("6 first exception", b, () -> b.set(beyond, beyond));
            }
            CHECKS.outside("6 setting", b, () -> b.set(4, 1));
            CHECKS.outside("6 setting", b, () -> b.set(-1, 1));
        }
    }

    private static void shoot() {
        ShutterBench b = new ShutterBench();
        b.drag(1, 4, 4, 10);
        // The light is 10 more from the column 4 on.
        same("7 spread", b.shoot(3, 1), 10);
        same("7 shots", b.count(0), 1);
        same("7 light", b.count(1), 24 * 160 + 20 * 10);
        same("7 undoable", b.count(4), 2);
        same("7 spread", b.shoot(3, 50), 10);
        same("7 undoable as one", b.count(4), 3);
        same("7 shots", b.count(0), 51);
        same("7 shots with", b.speed(3, 8), 51);
        same("7 shots with others", b.speed(2, 8), 0);
        same("7 since cleaned", b.curtain(0, 1), 51);
        same("7 since cleaned", b.curtain(1, 1), 51);
        CHECKS.outside("7 speed", b, () -> b.shoot(6, 1));
        CHECKS.outside("7 speed", b, () -> b.shoot(-1, 1));
        CHECKS.outside("7 first exception", b, () -> b.shoot(6, 0));
        CHECKS.illegal("7 shots", b, () -> b.shoot(0, 0));
        CHECKS.illegal("7 shots", b, () -> b.shoot(0, 51));
        for (int beyond : BEYOND) {
            CHECKS.outside("7 speed", b, () -> b.shoot(beyond, 1));
            CHECKS.illegal("7 shots", b, () -> b.shoot(0, beyond));
        }
    }

    private static void wear() {
        ShutterBench b = new ShutterBench();
        b.shoot(0, 9);
        same("7 dust at 9", b.curtain(0, 2), 480);
        b.shoot(0, 1);
        same("7 dust at 10", b.curtain(0, 2), 24 * 21);
        b.set(0, 20);
        same("7 more dust", b.curtain(1, 2), 24 * 40);
        b.shoot(0, 9);
        same("7 no wear at 19", b.curtain(0, 0), 50);
        b.shoot(1, 1);
        same("7 wear at 20, speeds together", b.curtain(0, 0), 49);
        same("7 wear at 20", b.curtain(1, 0), 49);
        b.clean(0);
        b.shoot(0, 20);
        same("7 wear counts all shots", b.curtain(0, 0), 48);
        b.set(3, 1);
        b.wind(0, 3);
        b.shoot(0, 5);
        same("7 not below 1", b.curtain(0, 0), 1);
        same("7 wear at each", b.curtain(1, 0), 43);
        b.set(3, 99);
        b.shoot(0, 50);
        same("7 wear off", b.curtain(1, 0), 43);
        b.shoot(0, 4);
        same("7 wear at 99", b.curtain(1, 0), 42);

        // Wear comes behind a shot: its own spread is of the springs before.
        ShutterBench w = new ShutterBench();
        w.set(3, 1);
        w.wind(1, 41);
        // 1000 / 41 is 24, 1000 / 50 is 20; then 1000 / 40 is 25, 1000 / 49 still 20.
        same("7 spread before wear", w.shoot(5, 1), 23 * 4);
        same("7 spread after it", w.speed(5, 4), 23 * 5);
        same("7 spread of the last", w.shoot(5, 2), 23 * 5);
    }

    private static void append() {
        ShutterBench b = new ShutterBench();
        same("8 length", b.append(33), 1);
        same("8 length", b.append(126), 2);
        same("8 not undoable", b.count(4), 0);
        CHECKS.illegal("8 code", b, () -> b.append(32));
        CHECKS.illegal("8 code", b, () -> b.append(127));
        for (int beyond : BEYOND) {
            CHECKS.illegal("8 code", b, () -> b.append(beyond));
        }
        for (int k = 3; k <= 60; k++) {
            same("8 length", b.append('0'), k);
        }
        CHECKS.badState("8 full", b, () -> b.append('0'));
        CHECKS.illegal("8 first exception", b, () -> b.append(32));
    }

    private static void clearBuffer() {
        ShutterBench b = new ShutterBench();
        same("9 empty", b.clearBuffer(), 0);
        type(b, "w0:1");
        same("9 length", b.clearBuffer(), 4);
        same("9 cleared", b.clearBuffer(), 0);
        for (int k = 0; k < 60; k++) {
            b.append('!');
        }
        same("9 full", b.clearBuffer(), 60);
        same("9 can be filled again", b.append('0'), 1);
        same("9 not undoable", b.count(4), 0);
    }

    private static void firstError() {
        same("10 empty", errorOf(""), 0);
        String[] right = {"0", "5", "3*2", "3*9", "w0:1", "w1:99", "w1:90", "c0", "c1", "0;1;2", "c0;w0:5;5*3",
            "0*", "w", "w0", "w0:", "c", "0;", "w0:1;", "w0:10;", "c1;", "2*4;", "0;c", "0;1*"};
        for (String text : right) {
            same("10 no error in " + text, errorOf(text), text.length());
        }
        String[] wrong = {"6", ":", "/", "*", ";", "W", "C", "0*1", "0*0", "0*:", "0**", "0*;", "00", "0c", "0:",
            "w2", "w/", "w:", "w;", "w00", "w0;", "w0*", "w0:0", "w0:;", "w0::", "w0:/", "w0:100", "w0:1:", "w0:1*", "w0:10*",
            "c2", "c/", "c;", "c00", "c0*", "c0:", "0*22", "0*2*", "0*2c", "0;;", "0;6", "c0;w1:5;9", "w0:1/", "d", "!", "~"};
        for (String text : wrong) {
            same("10 error in " + text, errorOf(text), text.length() - 1);
            same("10 first error in " + text, errorOf(text + ";0;0"), text.length() - 1);
        }
        StringBuilder full = new StringBuilder("w0:1");
        while (full.length() < 60) {
            full.append(full.length() % 2 == 0 ? ';' : '3');
        }
        same("10 text of any length", errorOf(full.toString().substring(0, 60)), 60);
        ShutterBench b = new ShutterBench();
        type(b, "0;;");
        long before = b.digest();
        b.firstError();
        same("10 changes nothing", b.digest(), before);
    }

    private static void play() {
        ShutterBench b = new ShutterBench();
        CHECKS.illegal("11 empty", b, b::play);
        type(b, "3");
        same("11 one shot", b.play(), 1);
        same("11 cleared", b.clearBuffer(), 0);
        same("11 shots with", b.speed(3, 8), 1);
        same("11 undoable", b.count(4), 1);
        type(b, "w0:7;w1:97;c0;2*9;5*2;c1;0;w0:8");
        same("11 shots", b.play(), 12);
        same("11 undoable as one", b.count(4), 2);
        same("11 spring", b.curtain(0, 0), 8);
        same("11 spring", b.curtain(1, 0), 97);
        same("11 since cleaned", b.curtain(0, 1), 12);
        same("11 since cleaned", b.curtain(1, 1), 1);
        same("11 shots with", b.speed(2, 8), 9);
        same("11 shots with", b.speed(5, 8), 2);
        same("11 shots with", b.speed(0, 8), 1);
        same("11 all shots", b.count(0), 13);
        type(b, "2;2;2;2;2;2;2");
        same("11 shots one behind the other", b.play(), 7);
        same("11 wear at the 20th shot", b.curtain(0, 0), 7);
        type(b, "c0;c1");
        same("11 no shots", b.play(), 0);
        same("11 undoable without shots", b.count(4), 4);
        String[] open = {"0*", "w", "w0", "w0:", "c", "0;", "6", "0;;0", "0*2;w1", "c0;", "0x"};
        for (String text : open) {
            ShutterBench o = new ShutterBench();
            type(o, text);
            CHECKS.illegal("11 not complete: " + text, o, o::play);
            same("11 text stays", o.clearBuffer(), text.length());
        }
        ShutterBench f = new ShutterBench();
        type(f, "0*9;1*9;2*9;3*9;4*9;5*9;0*9;1*9;2*9;3*9;4*9;5*9;0*9;1*9;w0:1");
        same("11 full text", f.play(), 126);
        same("11 last part is done", f.curtain(0, 0), 1);
    }

    private static void undo() {
        ShutterBench b = new ShutterBench();
        CHECKS.badState("12 none", b, b::undo);
        for (int k = 1; k <= 8; k++) {
            b.wind(0, k);
        }
        same("12 at most 6", b.count(4), 6);
        for (int k = 7; k >= 2; k--) {
            same("12 left", b.undo(), k - 2);
            same("12 restored", b.curtain(0, 0), k);
        }
        CHECKS.badState("12 oldest ones are dropped", b, b::undo);
        same("12 can save again", b.wind(0, 9), 2);
        same("12 left", b.undo(), 0);

        ShutterBench a = new ShutterBench();
        a.set(0, 3);
        a.shoot(1, 15);
        type(a, "w0:9");
        long before = a.digest();
        restores(a, before, () -> a.wind(1, 3));
        restores(a, before, () -> a.drag(1, 0, 9, 9));
        restores(a, before, () -> a.drag(0, 0, 9, 9));
        restores(a, before, () -> a.clean(0));
        restores(a, before, () -> a.correct(4, 9));
        restores(a, before, () -> a.set(3, 9));
        restores(a, before, () -> a.shoot(5, 30));
        a.play();
        same("12 played", a.curtain(0, 0), 9);
        same("12 left", a.undo(), 2);
        same("12 restored", a.curtain(0, 0), 50);
        same("12 buffer is not restored", a.clearBuffer(), 0);
        type(a, "c0");
        a.undo();
        same("12 buffer stays", a.clearBuffer(), 2);
        same("12 counts are restored", a.count(0), 0);
        same("12 light is restored", a.count(1), 0);
    }

    private static void restores(ShutterBench bench, long before, Checks.Call call) {
        call.run();
        same("12 left", bench.undo(), 2);
        same("12 all is restored", bench.digest(), before);
    }

    private static void curtain() {
        ShutterBench b = new ShutterBench();
        b.wind(1, 33);
        b.drag(1, 3, 4, 5);
        b.drag(1, 9, 9, 5);
        b.shoot(0, 10);
        same("13 spring", b.curtain(1, 0), 33);
        same("13 shots", b.curtain(1, 1), 10);
        same("13 ticks", b.curtain(1, 2), 24 * (30 + 1) + 15);
        same("13 slowest, the first", b.curtain(1, 3), 3);
        same("13 other curtain", b.curtain(0, 2), 24 * 21);
        same("13 other curtain", b.curtain(0, 3), 0);
        b.drag(1, 23, 23, 6);
        same("13 slowest", b.curtain(1, 3), 23);
        same("13 the second one by itself", b.curtain(1, 2), 24 * 31 + 21);
        b.drag(1, 0, 0, 8);
        same("13 slowest", b.curtain(1, 3), 0);
        same("13 ticks", b.curtain(1, 2), 24 * 31 + 29);
        long before = b.digest();
        b.curtain(0, 0);
        same("13 changes nothing", b.digest(), before);
        CHECKS.outside("13 curtain", b, () -> b.curtain(2, 0));
        CHECKS.outside("13 curtain", b, () -> b.curtain(-1, 0));
        CHECKS.outside("13 first exception", b, () -> b.curtain(2, 4));
        CHECKS.illegal("13 what", b, () -> b.curtain(0, 4));
        for (int beyond : BEYOND) {
            CHECKS.illegal("13 what", b, () -> b.curtain(0, beyond));
            CHECKS.outside("13 curtain", b, () -> b.curtain(beyond, 0));
        }
    }

    private static void column() {
        ShutterBench b = new ShutterBench();
        same("14 leaves", b.column(0, 0, 0), 20);
        same("14 covers", b.column(0, 0, 1), 40);
        same("14 leaves", b.column(5, 23, 0), 480);
        same("14 covers", b.column(5, 23, 1), 1120);
        b.drag(0, 2, 2, 50);
        // The second curtain waits at the column 2 and goes on from there.
        same("14 before", b.column(0, 1, 2), 20);
        same("14 leaves", b.column(0, 2, 0), 110);
        same("14 covers not earlier", b.column(0, 2, 1), 110);
        same("14 no light", b.column(0, 2, 2), 0);
        same("14 error", b.column(0, 2, 3), 20);
        same("14 counts from then on", b.column(0, 3, 1), 130);
        same("14 drag of the first", b.column(0, 2, 4), 50);
        same("14 drag of the second", b.column(0, 2, 5), 0);
        b.drag(1, 1, 1, 7);
        same("14 drag of the second", b.column(0, 1, 5), 7);
        same("14 more light", b.column(0, 1, 2), 27);
        same("14 error without sign", b.column(0, 1, 3), 7);
        b.wind(1, 10);
        same("14 from then on", b.column(0, 2, 1), 20 + 107 + 100 + 100);
        b.correct(1, 5);
        same("14 error is not of the correction", b.column(1, 0, 3), 45 + 80 - 40);
        CHECKS.outside("14 speed", b, () -> b.column(6, 0, 0));
        CHECKS.outside("14 column", b, () -> b.column(0, 24, 0));
        CHECKS.outside("14 column", b, () -> b.column(0, -1, 0));
        CHECKS.outside("14 first exception", b, () -> b.column(6, 0, 6));
        CHECKS.outside("14 first exception", b, () -> b.column(0, 24, 6));
        CHECKS.illegal("14 what", b, () -> b.column(0, 0, 6));
        for (int beyond : BEYOND) {
            CHECKS.outside("14 speed", b, () -> b.column(beyond, 0, 0));
            CHECKS.outside("14 column", b, () -> b.column(0, beyond, 0));
            CHECKS.illegal("14 what", b, () -> b.column(0, 0, beyond));
        }
    }

    private static void bounce() {
        ShutterBench b = new ShutterBench();
        b.wind(0, 65);
        b.wind(1, 65);
        // 15 ticks a column; the last one is left at 360 and covered again from 360 to 390.
        same("14 one column", b.count(2), 1);
        same("14 lost wholly within", b.column(0, 23, 2), 0);
        same("14 lost in part", b.column(1, 23, 2), 10);
        same("14 covers as before", b.column(1, 23, 1), 400);
        same("14 column before", b.column(1, 22, 2), 40);
        b.set(2, 200);
        same("14 only where open", b.column(3, 23, 2), 0);
        same("14 only so long", b.column(4, 23, 2), 120);
        b.set(2, 0);
        same("14 no time", b.column(1, 23, 2), 40);
        same("14 covers them for no time", b.count(2), 1);
        b.set(2, 30);
        b.wind(0, 99);
        // 10 ticks a column; left at 240. The second takes 15: the column 18 is covered at 20 + 285.
        same("14 at most 6", b.count(2), 6);
        same("14 six columns", b.column(0, 18, 2), 20 + 19 * 5 - 30);
        same("14 the seventh", b.column(0, 17, 2), 20 + 18 * 5);
        b.wind(1, 99);
        // The column 20 is covered at 230, ahead of the bounce; the column 22 at 250.
        same("14 closed ahead of the bounce", b.column(0, 20, 2), 20);
        same("14 closed when it begins", b.column(0, 21, 2), 20);
        same("14 closed within it", b.column(0, 22, 2), 10);
        same("14 closed within it", b.column(0, 23, 2), 0);
        int[] springs = {60, 61, 64, 65, 69, 70, 89, 90, 94};
        int[] columns = {0, 0, 0, 1, 1, 2, 5, 6, 6};
        for (int k = 0; k < springs.length; k++) {
            b.wind(0, springs[k]);
            same("14 bounce of " + springs[k], b.count(2), columns[k]);
        }
        b.wind(0, 20);
        same("14 the second curtain does not bounce", b.count(2), 0);
        b.set(1, 1);
        same("14 a spring that bounces", b.count(2), 3);
        same("16 count 2", b.count(2), 3);
    }

    private static void speed() {
        ShutterBench b = new ShutterBench();
        int[] wanted = {20, 40, 80, 160, 320, 640};
        for (int v = 0; v < 6; v++) {
            same("15 wanted", b.speed(v, 0), wanted[v]);
            same("15 start", b.speed(v, 2), wanted[v]);
            same("15 light", b.speed(v, 3), 24 * wanted[v]);
        }
        same("15 no error: the first column", b.speed(0, 6), 0);
        b.correct(0, -20);
        same("15 start", b.speed(0, 2), 0);
        same("15 dark", b.speed(0, 7), 24);
        b.correct(0, -50);
        same("15 start not below 0", b.speed(0, 2), 0);
        same("15 wanted stays", b.speed(0, 0), 20);
        same("15 correction", b.speed(0, 1), 50);
        same("15 greatest error", b.speed(0, 5), 20);
        same("15 first of several", b.speed(0, 6), 0);
        b.correct(2, -30);
        b.drag(0, 6, 6, 10);
        b.drag(1, 12, 12, 25);
        // The light is 50, from the column 6 on 40, from the column 12 on 65.
        same("15 light", b.speed(2, 3), 6 * 50 + 6 * 40 + 12 * 65);
        same("15 spread", b.speed(2, 4), 25);
        same("15 greatest error", b.speed(2, 5), 40);
        same("15 column of it", b.speed(2, 6), 6);
        same("15 dark", b.speed(2, 7), 0);
        b.shoot(2, 4);
        b.shoot(1, 2);
        same("15 shots", b.speed(2, 8), 4);
        same("15 shots", b.speed(1, 8), 2);
        same("15 shots", b.speed(0, 8), 0);
        CHECKS.outside("15 speed", b, () -> b.speed(6, 0));
        CHECKS.outside("15 first exception", b, () -> b.speed(6, 9));
        CHECKS.illegal("15 what", b, () -> b.speed(0, 9));
        for (int beyond : BEYOND) {
            CHECKS.outside("15 speed", b, () -> b.speed(beyond, 0));
            CHECKS.illegal("15 what", b, () -> b.speed(0, beyond));
        }
    }

    private static void count() {
        ShutterBench b = new ShutterBench();
        b.wind(1, 25);
        // The second curtain takes 40, the first one 20: 20 more light at each column.
        b.shoot(3, 1);
        same("16 shots", b.count(0), 1);
        same("16 light", b.count(1), 24 * 160 + 20 * 300);
        same("16 spread", b.count(3), 460);
        b.wind(1, 50);
        b.shoot(0, 2);
        same("16 shots", b.count(0), 3);
        same("16 light of the last", b.count(1), 480);
        same("16 greatest spread stays", b.count(3), 460);
        same("16 saved", b.count(4), 4);
        b.correct(0, 50);
        same("16 light as it was made", b.count(1), 480);
        b.undo();
        same("16 saved", b.count(4), 4);
        for (int k = 0; k < 4; k++) {
            b.undo();
        }
        same("16 greatest spread undone", b.count(3), 0);
        CHECKS.illegal("16 what", b, () -> b.count(5));
        for (int beyond : BEYOND) {
            CHECKS.illegal("16 what", b, () -> b.count(beyond));
        }
    }

    private static void setting() {
        ShutterBench b = new ShutterBench();
        for (int s = 0; s < 4; s++) {
            b.set(s, 10 + s);
        }
        for (int s = 0; s < 4; s++) {
            same("17 value", b.setting(s), 10 + s);
        }
        CHECKS.outside("17 setting", b, () -> b.setting(4));
        for (int beyond : BEYOND) {
            CHECKS.outside("17 setting", b, () -> b.setting(beyond));
        }
    }

    private static void bestCorrection() {
        ShutterBench b = new ShutterBench();
        same("18 none needed", b.bestCorrection(3), 100);
        b.correct(3, 17);
        same("18 whatever it is now", b.bestCorrection(3), 100);
        b.drag(1, 0, 0, 30);
        same("18 less", b.bestCorrection(3), 70);
        same("18 the start is not below 0", b.bestCorrection(0), 50);
        same("18 nothing changes", b.speed(3, 1), 117);
        same("18 nothing is saved", b.count(4), 2);
        b.drag(1, 0, 0, 0);
        b.drag(1, 12, 12, 10);
        // Half the columns want 10 less, half none: each correction between is as good; -10 is the least.
        same("18 of several the least", b.bestCorrection(3), 90);
        b.drag(0, 0, 0, 50);
        b.drag(0, 1, 1, 50);
        same("18 the greatest", b.bestCorrection(4), 150);
        CHECKS.outside("18 speed", b, () -> b.bestCorrection(6));
        for (int beyond : BEYOND) {
            CHECKS.outside("18 speed", b, () -> b.bestCorrection(beyond));
        }
    }

    private static void bestSpring() {
        ShutterBench b = new ShutterBench();
        // 1000 / 48 is the same as 1000 / 50; with 47 the curtain is slower.
        same("19 second", b.bestSpring(1, 2), 48);
        same("19 first, all dark", b.bestSpring(0, 0), 1);
        b.wind(1, 33);
        same("19 whatever it is now", b.bestSpring(1, 5), 48);
        b.wind(0, 99);
        b.set(2, 0);
        same("19 as fast as the first one", b.bestSpring(1, 5), 91);
        b.set(2, 30);
        // Bounce takes 30 from the last 6 columns: a second curtain of 11 ticks makes a spread of 29.
        same("19 with bounce", b.bestSpring(1, 5), 84);
        ShutterBench c = new ShutterBench();
        c.set(0, 20);
        for (int k = 0; k < 5; k++) {
            c.shoot(5, 48);
        }
        c.clean(0);
        c.wind(0, 50);
        c.wind(1, 50);
        // Dust makes 480 for the second curtain alone: it takes 500, as a first one with a spring of 2.
        same("19 first", c.bestSpring(0, 5), 2);
        same("19 first, all dark in shorter time", c.bestSpring(0, 4), 1);
        same("19 nothing changes", c.curtain(0, 0), 50);
        same("19 nothing is saved", c.count(4), 6);
        CHECKS.outside("19 curtain", c, () -> c.bestSpring(2, 0));
        CHECKS.outside("19 speed", c, () -> c.bestSpring(0, 6));
        for (int beyond : BEYOND) {
            CHECKS.outside("19 curtain", c, () -> c.bestSpring(beyond, 0));
            CHECKS.outside("19 speed", c, () -> c.bestSpring(0, beyond));
        }
    }

    private static void ifShot() {
        ShutterBench b = new ShutterBench();
        b.set(3, 1);
        b.wind(1, 41);
        b.wind(0, 45);
        long before = b.digest();
        // 1000 / 45 is 22, 1000 / 41 is 24, then 1000 / 44 is 22, 1000 / 40 is 25.
        same("20 spread of the first", b.ifShot(5, 1, 0), 23 * 2);
        same("20 error of the first", b.ifShot(5, 1, 2), 24 * 2);
        same("20 spring", b.ifShot(5, 1, 1), 44);
        same("20 spread of the last", b.ifShot(5, 2, 0), 23 * 3);
        same("20 error of the last", b.ifShot(5, 2, 2), 24 * 3);
        same("20 spring of the first curtain", b.ifShot(5, 44, 1), 1);
        same("20 spring not below 1", b.ifShot(5, 50, 1), 1);
        same("20 changes nothing", b.digest(), before);
        ShutterBench d = new ShutterBench();
        d.shoot(0, 19);
        same("20 shots so far count", d.ifShot(0, 1, 1), 49);
        d.clean(0);
        // Behind 10 more shots the first curtain has 1 of dust, the second one 2.
        same("20 dust", d.ifShot(4, 11, 2), 24);
        for (int what = 0; what < 3; what++) {
            int w = what;
            CHECKS.outside("20 speed", b, () -> b.ifShot(6, 1, w));
            CHECKS.illegal("20 shots", b, () -> b.ifShot(0, 0, w));
            CHECKS.illegal("20 shots", b, () -> b.ifShot(0, 51, w));
        }
        CHECKS.outside("20 first exception", b, () -> b.ifShot(6, 0, 3));
        for (int beyond : BEYOND) {
            CHECKS.outside("20 speed", b, () -> b.ifShot(beyond, 1, 0));
            CHECKS.illegal("20 shots", b, () -> b.ifShot(0, beyond, 0));
            CHECKS.illegal("20 what", b, () -> b.ifShot(0, 1, beyond));
        }
        CHECKS.illegal("20 what", b, () -> b.ifShot(0, 1, 3));
    }

    private static void goodFor() {
        ShutterBench b = new ShutterBench();
        same("21 at most 200", b.goodFor(0, 0), 200);
        b.correct(2, 5);
        same("21 none", b.goodFor(2, 4), 0);
        same("21 of just this", b.goodFor(2, 5), 200);
        b.set(3, 3);
        b.wind(1, 49);
        // The second spring is at 48 behind 3 shots and at 47, 21 ticks, behind 6; the first one at 48.
        same("21 until it is worse", b.goodFor(4, 23), 6);
        b.shoot(0, 2);
        same("21 shots so far count", b.goodFor(4, 23), 4);
        long before = b.digest();
        b.goodFor(5, 999);
        same("21 changes nothing", b.digest(), before);
        CHECKS.outside("21 speed", b, () -> b.goodFor(6, 0));
        CHECKS.outside("21 first exception", b, () -> b.goodFor(6, 1000));
        CHECKS.illegal("21 error", b, () -> b.goodFor(0, 1000));
        CHECKS.illegal("21 error", b, () -> b.goodFor(0, -1));
        for (int beyond : BEYOND) {
            CHECKS.outside("21 speed", b, () -> b.goodFor(beyond, 0));
            CHECKS.illegal("21 error", b, () -> b.goodFor(0, beyond));
        }
    }

    private static void evenness() {
        ShutterBench b = new ShutterBench();
        CHECKS.same("22 even", b.evenness(5), 1.0);
        b.drag(1, 12, 12, 10);
        CHECKS.same("22 uneven", b.evenness(0), 20.0 / 30.0);
        CHECKS.same("22 uneven", b.evenness(5), 640.0 / 650.0);
        b.drag(0, 3, 3, 20);
        CHECKS.same("22 a dark column", b.evenness(0), 0.0);
        b.correct(0, -50);
        b.drag(1, 12, 12, 0);
        CHECKS.same("22 all dark", b.evenness(0), 1.0);
        b.correct(0, -19);
        CHECKS.same("22 least light", b.evenness(0), 0.0);
        CHECKS.outside("22 speed", b, () -> b.evenness(6));
        for (int beyond : BEYOND) {
            CHECKS.outside("22 speed", b, () -> b.evenness(beyond));
        }
    }

    private static void digest() {
        ShutterBench b = new ShutterBench();
        long empty = b.digest();
        b.append('w');
        b.append('~');
        same("23 buffer", b.digest(), ((empty + 2) * 31 + 'w') * 31 + '~');
        b.clearBuffer();
        same("23 no buffer", b.digest(), empty);
        b.digest();
        same("23 changes nothing", b.digest(), empty);
        b.set(0, 3);
        b.shoot(2, 39);
        b.clean(1);
        b.wind(1, 44);
        b.drag(0, 0, 0, 9);
        b.drag(1, 7, 12, 4);
        b.correct(3, -21);
        same("23 of the other answers", b.digest(), digestOf(b));
        b.correct(2, -47);
        b.drag(0, 5, 23, 45);
        same("23 of a dark column", b.digest(), digestOf(b));
        CHECKS.same("23 of a dark column", b.evenness(2), 0.0);
        b.undo();
        empty = b.digest();
        b.wind(0, 51);
        b.undo();
        same("23 undone", b.digest(), empty);
    }

    /** The error that goodFor is asked for in a digest is 60: one of just that is good, one of 61 is not. */
    private static void digestOfError() {
        for (int drag = 10; drag <= 11; drag++) {
            ShutterBench b = new ShutterBench();
            b.correct(3, 50);
            b.drag(1, 0, 0, drag);
            same("23 greatest error", b.speed(3, 5), 50 + drag);
            same("23 of goodFor", b.digest(), digestOf(b));
        }
    }

    /** The digest by the other calls of a bench with an empty buffer. */
    private static long digestOf(ShutterBench b) {
        long hash = 3191;
        for (int what = 0; what <= 4; what++) {
            hash = 31 * hash + b.count(what);
        }
        for (int s = 0; s <= 3; s++) {
            hash = 31 * hash + b.setting(s);
        }
        for (int c = 0; c <= 1; c++) {
            for (int what = 0; what <= 3; what++) {
                hash = 31 * hash + b.curtain(c, what);
            }
            for (int k = 0; k <= 23; k++) {
                hash = 31 * hash + b.column(0, k, 4 + c);
            }
        }
        for (int v = 0; v <= 5; v++) {
            for (int what = 0; what <= 8; what++) {
                hash = 31 * hash + b.speed(v, what);
            }
        }
        for (int what = 0; what <= 11; what++) {
            hash = 31 * hash + b.column(2, what < 4 ? 0 : what < 8 ? 11 : 23, what % 4);
        }
        hash = 31 * hash + b.bestCorrection(1);
        hash = 31 * hash + b.bestSpring(1, 2);
        for (int what = 0; what <= 2; what++) {
            hash = 31 * hash + b.ifShot(0, 9, what);
        }
        hash = 31 * hash + b.goodFor(3, 60);
        hash = 31 * hash + Double.doubleToLongBits(b.evenness(2));
        return 31 * hash;
    }
}
