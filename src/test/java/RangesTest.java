import java.util.ArrayList;
import java.util.List;

/** The range of each argument, which exception comes first, and that a refused call or a look changes nothing. */
public final class RangesTest {
    private static final Checks CHECKS = new Checks();
    private static final String NOTHING = "nothing";
    private static final String INDEX = "IndexOutOfBoundsException";
    private static final String ARGUMENT = "IllegalArgumentException";
    private static final int LOW = Integer.MIN_VALUE;
    private static final int HIGH = Integer.MAX_VALUE;
    private static final int[] LEAST_VALUES = {0, 1, 0, 1};
    private static final int[] MOST_VALUES = {20, 99, 200, 99};

    private interface Call {
        void run(ShutterBench bench, int[] a);
    }

    private interface Due {
        String of(int[] a);
    }

    public static void main(String[] args) {
        calls("2 wind", (b, a) -> b.wind(a[0], a[1]), 1, 0, 1, 1, 99);
        calls("4 clean", (b, a) -> b.clean(a[0]), 1, 0, 1);
        calls("5 correct", (b, a) -> b.correct(a[0], a[1]), 1, 0, 5, -50, 50);
        calls("7 shoot", (b, a) -> b.shoot(a[0], a[1]), 1, 0, 5, 1, 50);
        calls("8 append", (b, a) -> b.append(a[0]), 0, 33, 126);
        dragCalls();
        setCalls();
        looks("13 curtain", (b, a) -> b.curtain(a[0], a[1]), 1, 0, 1, 0, 3);
        looks("14 column", (b, a) -> b.column(a[0], a[1], a[2]), 2, 0, 5, 0, 23, 0, 5);
        looks("15 speed", (b, a) -> b.speed(a[0], a[1]), 1, 0, 5, 0, 8);
        looks("16 count", (b, a) -> b.count(a[0]), 0, 0, 4);
        looks("17 setting", (b, a) -> b.setting(a[0]), 1, 0, 3);
        looks("18 bestCorrection", (b, a) -> b.bestCorrection(a[0]), 1, 0, 5);
        looks("19 bestSpring", (b, a) -> b.bestSpring(a[0], a[1]), 2, 0, 1, 0, 5);
        looks("20 ifShot", (b, a) -> b.ifShot(a[0], a[1], a[2]), 1, 0, 5, 1, 50, 0, 2);
        looks("21 goodFor", (b, a) -> b.goodFor(a[0], a[1]), 1, 0, 5, 0, 999);
        looks("22 evenness", (b, a) -> b.evenness(a[0]), 1, 0, 5);
        looks("23 digest", (b, a) -> b.digest(), 0);
        looks("10 firstError", (b, a) -> b.firstError(), 0);
        CHECKS.end("RangesTest");
    }

    /** A bench with six saved states, each unlike the others, and a text that ends too early. */
    private static ShutterBench used() {
        ShutterBench b = new ShutterBench();
        b.set(3, 7);
        b.set(0, 2);
        b.shoot(2, 25);
        b.clean(0);
        b.drag(1, 3, 9, 11);
        b.wind(0, 71);
        b.correct(4, -33);
        b.shoot(1, 4);
        b.append('w');
        b.append('0');
        b.append(':');
        return b;
    }

    /** What the bench and its saved states are, the newest first; all of them are used up by this. */
    private static List<Long> states(ShutterBench b) {
        List<Long> digests = new ArrayList<>();
        digests.add(b.digest());
        for (int left = b.count(4); left > 0; left--) {
            b.undo();
            digests.add(b.digest());
        }
        return digests;
    }

    /** The least, the most, and what lies outside of each argument; ranges holds least and most in turn. */
    private static int[][] edges(int[] ranges) {
        int[][] edges = new int[ranges.length / 2][];
        for (int k = 0; k < edges.length; k++) {
            int least = ranges[2 * k];
            int most = ranges[2 * k + 1];
            edges[k] = new int[] {LOW, least - 1, least, most, most + 1, HIGH};
        }
        return edges;
    }

    /** The first so many arguments are indexes; one of these that does not fit is told first. */
    private static Due dueOf(int indexes, int[] ranges) {
        return a -> {
            String due = NOTHING;
            for (int k = a.length - 1; k >= 0; k--) {
                if (a[k] < ranges[2 * k] || a[k] > ranges[2 * k + 1]) {
                    due = k < indexes ? INDEX : ARGUMENT;
                }
            }
            return due;
        };
    }

    private static void calls(String name, Call call, int indexes, int... ranges) {
        each(name, call, dueOf(indexes, ranges), false, edges(ranges));
    }

    private static void looks(String name, Call call, int indexes, int... ranges) {
        each(name, call, dueOf(indexes, ranges), true, edges(ranges));
    }

    private static void dragCalls() {
        Due due = a -> {
            if (a[0] < 0 || a[0] > 1) {
                return INDEX;
            }
            boolean fits = a[1] >= 0 && a[1] <= 23 && a[2] >= a[1] && a[2] <= 23 && a[3] >= 0 && a[3] <= 50;
            return fits ? NOTHING : ARGUMENT;
        };
        int[] from = {LOW, -1, 0, 5, 23, 24, HIGH};
        int[] to = {LOW, -1, 0, 4, 5, 6, 22, 23, 24, HIGH};
        each("3 drag", (b, a) -> b.drag(a[0], a[1], a[2], a[3]), due, false,
                new int[] {-1, 0, 1, 2, HIGH}, from, to, new int[] {LOW, -1, 0, 50, 51, HIGH});
    }

    private static void setCalls() {
        Due due = a -> {
            if (a[0] < 0 || a[0] > 3) {
                return INDEX;
            }
            return a[1] >= LEAST_VALUES[a[0]] && a[1] <= MOST_VALUES[a[0]] ? NOTHING : ARGUMENT;
        };
        each("6 set", (b, a) -> b.set(a[0], a[1]), due, false, new int[] {LOW, -1, 0, 1, 2, 3, 4, HIGH},
                new int[] {LOW, -1, 0, 1, 20, 21, 99, 100, 200, 201, HIGH});
    }

    /** Makes the call with each choice of the arguments. */
    private static void each(String name, Call call, Due due, boolean isLook, int[]... edges) {
        List<Long> usedStates = states(used());
        long freshDigest = new ShutterBench().digest();
        int choices = 1;
        for (int[] edge : edges) {
            choices *= edge.length;
        }
        for (int choice = 0; choice < choices; choice++) {
            int[] a = new int[edges.length];
            StringBuilder told = new StringBuilder(name);
            int rest = choice;
            for (int k = 0; k < edges.length; k++) {
                a[k] = edges[k][rest % edges[k].length];
                rest /= edges[k].length;
                told.append(' ').append(a[k]);
            }
            one(told.toString(), call, a, due.of(a), isLook, usedStates, freshDigest);
        }
    }

    private static void one(String told, Call call, int[] a, String due, boolean isLook, List<Long> usedStates,
            long freshDigest) {
        ShutterBench used = used();
        ShutterBench fresh = new ShutterBench();
        CHECKS.same(told, Checks.thrownBy(() -> call.run(used, a)), due);
        CHECKS.same(told + " of a new one", Checks.thrownBy(() -> call.run(fresh, a)), due);
        if (isLook || !due.equals(NOTHING)) {
            CHECKS.same(told + " changes nothing", states(used).toString(), usedStates.toString());
            CHECKS.same(told + " changes nothing of a new one", fresh.digest(), freshDigest);
            CHECKS.same(told + " saves nothing", fresh.count(4), 0);
        }
    }
}
