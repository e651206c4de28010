import java.util.ArrayList;
import java.util.HashMap;
import java.util.List;
import java.util.Map;
import java.util.regex.Matcher;
import java.util.regex.Pattern;

/** The document told another way, plainly and at any cost, to be held against the class. */
final class Model {
    private static final String PART = "(?:[0-5](?:\\*[2-9])?|w[01]:[1-9][0-9]?|c[01])";
    private static final Pattern TEXT = Pattern.compile(PART + "(?:;" + PART + ")*");
    private static final String[] SPRING = {"spring 0", "spring 1"};
    private static final String[] DIRT = {"dirt 0", "dirt 1"};
    private static final String[][] DRAG = new String[2][24];
    private static final int[][] RANGES = {{0, 20}, {1, 99}, {0, 200}, {1, 99}};

    static {
        for (int c = 0; c < 2; c++) {
            for (int k = 0; k < 24; k++) {
                DRAG[c][k] = "drag " + c + " " + k;
            }
        }
    }

    /** State by name: "spring 0", "drag 1 17", "setting 2", and so on; what is missing is 0. */
    private Map<String, Integer> state = new HashMap<>();
    private final List<Map<String, Integer>> saved = new ArrayList<>();
    private String buffer = "";

    Model() {
        state.put("spring 0", 50);
        state.put("spring 1", 50);
        state.put("setting 0", 1);
        state.put("setting 1", 60);
        state.put("setting 2", 30);
        state.put("setting 3", 20);
    }

    private int get(String name) {
        return state.getOrDefault(name, 0);
    }

    private int replace(String name, int value) {
        int previous = get(name);
        state.put(name, value);
        return previous;
    }

    private void save() {
        saved.add(new HashMap<>(state));
        if (saved.size() > 6) {
            saved.remove(0);
        }
    }

    private static void index(int value, int bound) {
        if (value < 0 || value >= bound) {
            throw new IndexOutOfBoundsException();
        }
    }

    private static void argument(boolean fits) {
        if (!fits) {
            throw new IllegalArgumentException();
        }
    }

    int wind(int curtain, int spring) {
        index(curtain, 2);
        argument(1 <= spring && spring <= 99);
        save();
        return replace("spring " + curtain, spring);
    }

    int drag(int curtain, int from, int to, int drag) {
        index(curtain, 2);
        argument(0 <= from && from <= 23 && from <= to && to <= 23 && 0 <= drag && drag <= 50);
        save();
        int changed = 0;
        for (int k = from; k <= to; k++) {
            changed += replace("drag " + curtain + " " + k, drag) == drag ? 0 : 1;
        }
        return changed;
    }

    int clean(int curtain) {
        index(curtain, 2);
        save();
        return replace("dirt " + curtain, 0);
    }

    int correct(int speed, int correction) {
        index(speed, 6);
        argument(-50 <= correction && correction <= 50);
        save();
        return 100 + replace("correction " + speed, correction);
    }

    int set(int setting, int value) {
        index(setting, 4);
        argument(RANGES[setting][0] <= value && value <= RANGES[setting][1]);
        save();
        return replace("setting " + setting, value);
    }

    int shoot(int speed, int shots) {
        index(speed, 6);
        argument(1 <= shots && shots <= 50);
        save();
        int spread = 0;
        for (int k = 0; k < shots; k++) {
            spread = speed(speed, 4);
            shot(speed);
        }
        return spread;
    }

    private void shot(int speed) {
        state.put("greatest", Math.max(get("greatest"), speed(speed, 4)));
        state.put("last", speed(speed, 3));
        state.merge("shots", 1, Integer::sum);
        state.merge("with " + speed, 1, Integer::sum);
        for (int c = 0; c < 2; c++) {
            state.merge("dirt " + c, 1, Integer::sum);
            if (get("shots") % get("setting 3") == 0 && get("spring " + c) > 1) {
                state.merge("spring " + c, -1, Integer::sum);
            }
        }
    }

    int append(int code) {
        argument(33 <= code && code <= 126);
        if (buffer.length() == 60) {
            throw new IllegalStateException();
        }
        buffer += (char) code;
        return buffer.length();
    }

    int clearBuffer() {
        int had = buffer.length();
        buffer = "";
        return had;
    }

    int firstError() {
        for (int k = 1; k <= buffer.length(); k++) {
            Matcher matcher = TEXT.matcher(buffer.substring(0, k));
            if (!matcher.matches() && !matcher.hitEnd()) {
                return k - 1;
            }
        }
        return buffer.length();
    }

    int play() {
        argument(TEXT.matcher(buffer).matches());
        save();
        int made = 0;
        for (String part : buffer.split(";")) {
            if (part.startsWith("w")) {
                state.put("spring " + part.charAt(1), Integer.parseInt(part.substring(3)));
            } else if (part.startsWith("c")) {
                state.put("dirt " + part.charAt(1), 0);
            } else {
                int times = part.length() == 1 ? 1 : Integer.parseInt(part.substring(2));
                for (int k = 0; k < times; k++) {
                    shot(Integer.parseInt(part.substring(0, 1)));
                    made++;
                }
            }
        }
        buffer = "";
        return made;
    }

    int undo() {
        if (saved.isEmpty()) {
            throw new IllegalStateException();
        }
        state = saved.remove(saved.size() - 1);
        return saved.size();
    }

    private int ticks(int curtain, int column) {
        return 1000 / get(SPRING[curtain]) + get(DRAG[curtain][column])
                + get("setting 0") * (get(DIRT[curtain]) / 10);
    }

    private int leaves(int column) {
        int tick = 0;
        for (int k = 0; k <= column; k++) {
            tick += ticks(0, k);
        }
        return tick;
    }

    /** The second curtain is held up most by one column, or by none: what it takes from there on counts. */
    private int covers(int speed, int column) {
        int behind = 0;
        int latest = 0;
        int left = leaves(column);
        for (int k = column; k >= 0; k--) {
            latest = Math.max(latest, left + behind);
            behind += ticks(1, k);
            left -= ticks(0, k);
        }
        return Math.max(latest, start(speed) + behind);
    }

    private int start(int speed) {
        return Math.max(0, wanted(speed) + get("correction " + speed));
    }

    private static int wanted(int speed) {
        return speed == 0 ? 20 : 2 * wanted(speed - 1);
    }

    /** The light before the bounce and the light behind it. */
    private int light(int speed, int column) {
        int opens = leaves(column);
        int closes = covers(speed, column);
        if (column < 24 - count(2)) {
            return closes - opens;
        }
        int bounces = leaves(23);
        int rests = bounces + get("setting 2");
        return Math.max(0, Math.min(closes, bounces) - opens) + Math.max(0, closes - Math.max(opens, rests));
    }

    private int error(int speed, int column) {
        int off = light(speed, column) - wanted(speed);
        return off < 0 ? -off : off;
    }

    int curtain(int curtain, int what) {
        index(curtain, 2);
        argument(0 <= what && what <= 3);
        int sum = 0;
        int slowest = 0;
        for (int k = 0; k < 24; k++) {
            sum += ticks(curtain, k);
            slowest = ticks(curtain, k) > ticks(curtain, slowest) ? k : slowest;
        }
        return new int[] {get("spring " + curtain), get("dirt " + curtain), sum, slowest}[what];
    }

    int column(int speed, int column, int what) {
        index(speed, 6);
        index(column, 24);
        argument(0 <= what && what <= 5);
        return new int[] {leaves(column), covers(speed, column), light(speed, column), error(speed, column),
            get("drag 0 " + column), get("drag 1 " + column)}[what];
    }

    int speed(int speed, int what) {
        index(speed, 6);
        argument(0 <= what && what <= 8);
        List<Integer> lights = new ArrayList<>();
        List<Integer> errors = new ArrayList<>();
        for (int k = 0; k < 24; k++) {
            lights.add(light(speed, k));
            errors.add(error(speed, k));
        }
        int all = 0;
        int dark = 0;
        for (int light : lights) {
            all += light;
            dark += light == 0 ? 1 : 0;
        }
        int worst = java.util.Collections.max(errors);
        int spread = java.util.Collections.max(lights) - java.util.Collections.min(lights);
        return new int[] {wanted(speed), 100 + get("correction " + speed), start(speed), all, spread, worst,
            errors.indexOf(worst), dark, get("with " + speed)}[what];
    }

    int count(int what) {
        argument(0 <= what && what <= 4);
        int above = Math.max(0, get("spring 0") - get("setting 1"));
        return new int[] {get("shots"), get("last"), Math.min(6, above / 5), get("greatest"), saved.size()}[what];
    }

    int setting(int setting) {
        index(setting, 4);
        return get("setting " + setting);
    }

    int bestCorrection(int speed) {
        index(speed, 6);
        int now = get("correction " + speed);
        int best = 0;
        int least = Integer.MAX_VALUE;
        for (int c = 50; c >= -50; c--) {
            state.put("correction " + speed, c);
            int errors = 0;
            for (int k = 0; k < 24; k++) {
                errors += error(speed, k);
            }
            best = errors <= least ? c : best;
            least = Math.min(least, errors);
        }
        state.put("correction " + speed, now);
        return 100 + best;
    }

    int bestSpring(int curtain, int speed) {
        index(curtain, 2);
        index(speed, 6);
        int now = get("spring " + curtain);
        int best = 0;
        int least = Integer.MAX_VALUE;
        for (int s = 99; s >= 1; s--) {
            state.put("spring " + curtain, s);
            int spread = speed(speed, 4);
            best = spread <= least ? s : best;
            least = Math.min(least, spread);
        }
        state.put("spring " + curtain, now);
        return best;
    }

    int ifShot(int speed, int shots, int what) {
        index(speed, 6);
        argument(1 <= shots && shots <= 50 && 0 <= what && what <= 2);
        Map<String, Integer> now = new HashMap<>(state);
        int[] answers = new int[3];
        for (int k = 0; k < shots; k++) {
            answers[0] = speed(speed, 4);
            answers[2] = speed(speed, 5);
            shot(speed);
        }
        answers[1] = get("spring 0");
        state = now;
        return answers[what];
    }

    int goodFor(int speed, int error) {
        index(speed, 6);
        argument(0 <= error && error <= 999);
        Map<String, Integer> now = new HashMap<>(state);
        int good = 0;
        while (good < 200 && speed(speed, 5) <= error) {
            good++;
            shot(speed);
        }
        state = now;
        return good;
    }

    double evenness(int speed) {
        index(speed, 6);
        int least = Integer.MAX_VALUE;
        int most = 0;
        for (int k = 0; k < 24; k++) {
            least = Math.min(least, light(speed, k));
            most = Math.max(most, light(speed, k));
        }
        return most == 0 ? 1.0 : (double) least / most;
    }

    long digest() {
        List<Long> values = new ArrayList<>();
        for (int what = 0; what < 5; what++) {
            values.add((long) count(what));
        }
        for (int s = 0; s < 4; s++) {
            values.add((long) setting(s));
        }
        for (int c = 0; c < 2; c++) {
            for (int what = 0; what < 4; what++) {
                values.add((long) curtain(c, what));
            }
            for (int k = 0; k < 24; k++) {
                values.add((long) get("drag " + c + " " + k));
            }
        }
        for (int v = 0; v < 6; v++) {
            for (int what = 0; what < 9; what++) {
                values.add((long) speed(v, what));
            }
        }
        for (int k : new int[] {0, 11, 23}) {
            for (int what = 0; what < 4; what++) {
                values.add((long) column(2, k, what));
            }
        }
        values.add((long) bestCorrection(1));
        values.add((long) bestSpring(1, 2));
        for (int what = 0; what < 3; what++) {
            values.add((long) ifShot(0, 9, what));
        }
        values.add((long) goodFor(3, 60));
        values.add(Double.doubleToLongBits(evenness(2)));
        values.add((long) buffer.length());
        for (char code : buffer.toCharArray()) {
            values.add((long) code);
        }
        long hash = 3191;
        for (long value : values) {
            hash = 31 * hash + value;
        }
        return hash;
    }
}
