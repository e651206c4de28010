import java.util.ArrayList;
import java.util.List;

/** The edges of "Undo": what saves a state, what of it comes back, and the seventh state. */
public final class UndoTest {
    private static final Checks CHECKS = new Checks();

    private interface Call {
        void run(ShutterBench bench);
    }

    private static final Call[] UNDOABLE = {
        b -> b.wind(0, 3), b -> b.wind(1, 97), b -> b.drag(0, 0, 23, 50), b -> b.drag(1, 23, 23, 1),
        b -> b.clean(0), b -> b.clean(1), b -> b.correct(0, -50), b -> b.correct(5, 50), b -> b.set(0, 20),
        b -> b.set(1, 1), b -> b.set(2, 0), b -> b.set(3, 1), b -> b.shoot(0, 1), b -> b.shoot(5, 50)};

    /** On a new bench none of these changes anything. */
    private static final Call[] IDLE = {
        b -> b.wind(0, 50), b -> b.wind(1, 50), b -> b.drag(0, 0, 23, 0), b -> b.drag(1, 5, 5, 0), b -> b.clean(0),
        b -> b.clean(1), b -> b.correct(3, 0), b -> b.set(0, 1), b -> b.set(1, 60), b -> b.set(2, 30), b -> b.set(3, 20)};

    private static final Call[] NOT_UNDOABLE = {
        b -> b.append('0'), b -> b.clearBuffer(), b -> b.firstError(), b -> b.curtain(0, 0), b -> b.column(0, 0, 0),
        b -> b.speed(0, 0), b -> b.count(0), b -> b.setting(0), b -> b.bestCorrection(0), b -> b.bestSpring(0, 0),
        b -> b.ifShot(0, 50, 0), b -> b.goodFor(0, 999), b -> b.evenness(0), b -> b.digest()};

    public static void main(String[] args) {
        noSavedState();
        eachSavesOne();
        idleCallsSaveToo();
        othersSaveNothing();
        refusedCallsSaveNothing();
        sixAndASeventh();
        stateByState();
        allComesBack();
        countsComeBack();
        bufferStays();
        CHECKS.end("UndoTest");
    }

    private static void same(String what, long got, long due) {
        CHECKS.same(what, got, due);
    }

    private static void noSavedState() {
        ShutterBench b = new ShutterBench();
        CHECKS.badState("a new one", b, b::undo);
        CHECKS.badState("a new one again", b, b::undo);
        b.wind(0, 3);
        same("one", b.undo(), 0);
        CHECKS.badState("behind the only one", b, b::undo);
        same("restored once", b.curtain(0, 0), 50);
    }

    private static void eachSavesOne() {
        for (Call call : UNDOABLE) {
            ShutterBench b = new ShutterBench();
            call.run(b);
            same("saved", b.count(4), 1);
            call.run(b);
            same("saved", b.count(4), 2);
            same("left", b.undo(), 1);
            same("left", b.undo(), 0);
            same("as it was", b.digest(), new ShutterBench().digest());
        }
    }

    /** "saves the state from before it (also if it changes nothing)". */
    private static void idleCallsSaveToo() {
        for (Call call : IDLE) {
            ShutterBench b = new ShutterBench();
            call.run(b);
            same("saved without a change", b.count(4), 1);
            same("left", b.undo(), 0);
            same("as it was", b.digest(), new ShutterBench().digest());
        }
        ShutterBench b = new ShutterBench();
        b.append('c');
        b.append('0');
        same("a text without a change", b.play(), 0);
        same("saved without a change", b.count(4), 1);
    }

    private static void othersSaveNothing() {
        for (Call call : NOT_UNDOABLE) {
            ShutterBench b = new ShutterBench();
            call.run(b);
            same("not saved", b.count(4), 0);
            b.wind(0, 7);
            call.run(b);
            same("not saved", b.count(4), 1);
            b.undo();
            same("as it was", b.curtain(0, 0), 50);
        }
    }

    private static void refusedCallsSaveNothing() {
        Call[] refused = {b -> b.wind(2, 5), b -> b.wind(0, 0), b -> b.drag(0, 9, 8, 0), b -> b.clean(2),
            b -> b.correct(0, 51), b -> b.set(0, 21), b -> b.shoot(0, 51), b -> b.play(), b -> b.append(32)};
        for (Call call : refused) {
            ShutterBench b = seven();
            Checks.Call once = () -> call.run(b);
            same("thrown", Checks.thrownBy(once).equals("nothing") ? 0 : 1, 1);
            for (int spring = 6; spring >= 1; spring--) {
                same("left", b.undo(), spring - 1);
                same("state behind a refused call", b.curtain(0, 0), spring);
            }
        }
    }

    /** A bench with the springs 1 to 7 wound one behind the other: the saved states are those of 1 to 6. */
    private static ShutterBench seven() {
        ShutterBench b = new ShutterBench();
        for (int spring = 1; spring <= 7; spring++) {
            b.wind(0, spring);
        }
        return b;
    }

    /** "At most 6 states are saved; the oldest one is dropped first". */
    private static void sixAndASeventh() {
        ShutterBench b = new ShutterBench();
        for (int k = 1; k <= 6; k++) {
            b.wind(0, k);
            same("saved", b.count(4), k);
        }
        for (int k = 5; k >= 1; k--) {
            same("left", b.undo(), k);
            same("state", b.curtain(0, 0), k);
        }
        same("left", b.undo(), 0);
        same("the oldest of six", b.curtain(0, 0), 50);
        CHECKS.badState("none is left of six", b, b::undo);

        ShutterBench s = seven();
        same("seven are six", s.count(4), 6);
        for (int k = 6; k >= 1; k--) {
            same("left", s.undo(), k - 1);
            same("state", s.curtain(0, 0), k);
        }
        CHECKS.badState("the oldest of seven is dropped", s, s::undo);
        same("it stays", s.curtain(0, 0), 1);
    }

    /** Saves and undoes in a fixed mixed order; a plain list tells what is due. */
    private static void stateByState() {
        for (int run = 1; run <= 20; run++) {
            ShutterBench b = new ShutterBench();
            List<Integer> springs = new ArrayList<>();
            int spring = 50;
            int pick = run;
            for (int k = 0; k < 160; k++) {
                pick = (pick * 75 + 74) % 65537;
                if (pick % 100 < 35 + run && !springs.isEmpty()) {
                    spring = springs.remove(springs.size() - 1);
                    same("left", b.undo(), springs.size());
                } else {
                    springs.add(spring);
                    if (springs.size() > 6) {
                        springs.remove(0);
                    }
                    int next = 1 + pick % 99;
                    same("previous", b.wind(0, next), spring);
                    spring = next;
                }
                same("state", b.curtain(0, 0), spring);
                same("saved", b.count(4), springs.size());
            }
        }
    }

    private static void allComesBack() {
        for (Call call : UNDOABLE) {
            ShutterBench b = new ShutterBench();
            b.set(3, 3);
            b.drag(0, 4, 8, 3);
            b.drag(1, 11, 20, 5);
            b.correct(2, 9);
            b.shoot(2, 17);
            b.clean(1);
            b.shoot(4, 3);
            // Six are saved: the call drops the oldest one, and undo leaves five.
            long before = b.digest() - count4(6);
            call.run(b);
            same("left", b.undo(), 5);
            same("as it was", b.digest() - count4(5), before);
        }
    }

    /** What so many saved states are worth in a digest of a bench with an empty buffer. */
    private static long count4(int states) {
        long worth = states;
        for (int k = 0; k < 4 + 2 * 28 + 6 * 9 + 3 * 4 + 1 + 1 + 3 + 1 + 1 + 1; k++) {
            worth *= 31;
        }
        return worth;
    }

    /** "all, also what is counted so far". */
    private static void countsComeBack() {
        ShutterBench b = new ShutterBench();
        b.shoot(1, 2);
        b.wind(1, 10);
        b.shoot(3, 30);
        same("greatest spread", b.count(3) > 0 ? 1 : 0, 1);
        b.undo();
        same("shots", b.count(0), 2);
        same("light of the last shot", b.count(1), 24 * 40);
        same("greatest spread", b.count(3), 0);
        same("shots with 3", b.speed(3, 8), 0);
        same("shots with 1", b.speed(1, 8), 2);
        same("shots since", b.curtain(0, 1), 2);
        same("shots since", b.curtain(1, 1), 2);
        same("no wear", b.curtain(0, 0), 50);
        b.undo();
        b.undo();
        same("no shots", b.count(0), 0);
        same("no shot so far", b.count(1), 0);
        same("no shots with 1", b.speed(1, 8), 0);
    }

    /** "but the buffer and the saved states". */
    private static void bufferStays() {
        ShutterBench b = new ShutterBench();
        b.append('c');
        b.wind(0, 9);
        b.append('1');
        b.undo();
        same("text stays", b.append(';'), 3);
        b.append('0');
        same("play", b.play(), 1);
        b.append('5');
        b.undo();
        same("played text does not come back, later text stays", b.clearBuffer(), 1);
        b.append('5');
        b.wind(0, 9);
        b.clearBuffer();
        b.undo();
        same("cleared text does not come back", b.clearBuffer(), 0);
        CHECKS.badState("undo is not undoable", b, b::undo);
    }
}
