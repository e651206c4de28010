/** A bench for camera shutters of two curtains: what each column gets of light, and what wear makes of it. */
public final class ShutterBench {
    public static final int NONE = -1;

    private static final int CURTAINS = 2;
    private static final int COLUMNS = 24;
    private static final int SPEEDS = 6;
    private static final int SETTINGS = 4;

    private static final int DUST = 0;
    private static final int CALM_SPRING = 1;
    private static final int BOUNCE_TICKS = 2;
    private static final int SHOTS_PER_WEAR = 3;

    private static final int MOST_SPRING = 99;
    private static final int MOST_DRAG = 50;
    private static final int MOST_CORRECTION = 50;
    private static final int MOST_SHOTS = 50;
    private static final int MOST_GOOD_SHOTS = 200;
    private static final int MOST_ERROR = 999;
    private static final int MOST_BOUNCE_COLUMNS = 6;
    private static final int MOST_SAVED = 6;
    private static final int BUFFER_LENGTH = 60;

    // Answers that may be below 0 are told with this much more.
    private static final int SHIFT = 100;

    // The places between two characters of shots as a text, by what may come next.
    private static final int AT_PART = 0;
    private static final int AFTER_SPEED = 1;
    private static final int AFTER_STAR = 2;
    private static final int AFTER_PART = 3;
    private static final int AFTER_W = 4;
    private static final int AFTER_W_CURTAIN = 5;
    private static final int AFTER_COLON = 6;
    private static final int AFTER_SPRING_DIGIT = 7;
    private static final int AFTER_C = 8;
    private static final int WRONG = 9;

    private final Shutter now;
    private final Shutter probe;
    private final Exposure exposure;
    private final Shutter[] saved;
    private int savedStates;
    private int nextSaved;
    private final int[] buffer;
    private int length;

    public ShutterBench() {
        now = new Shutter();
        probe = new Shutter();
        exposure = new Exposure();
        saved = new Shutter[MOST_SAVED];
        for (int k = 0; k < saved.length; k++) {
            saved[k] = new Shutter();
        }
        savedStates = 0;
        nextSaved = 0;
        buffer = new int[BUFFER_LENGTH];
        length = 0;
    }

    // ---- the shutter

    public int wind(int curtain, int spring) throws IndexOutOfBoundsException, IllegalArgumentException {
        needCurtain(curtain);
        needRange(spring, 1, MOST_SPRING);
        saveState();
        int previous = at(now.springs, curtain);
        put(now.springs, curtain, spring);
        return previous;
    }

    public int drag(int curtain, int from, int to, int drag)
            throws IndexOutOfBoundsException, IllegalArgumentException {
        needCurtain(curtain);
        needRange(from, 0, COLUMNS - 1);
        needRange(to, from, COLUMNS - 1);
        needRange(drag, 0, MOST_DRAG);
        saveState();
        int[] drags = now.dragsOf(curtain);
        int changed = 0;
        for (int k = from; k <= to && k < COLUMNS; k++) {
            if (at(drags, k) != drag) {
                put(drags, k, drag);
                changed++;
            }
        }
        return changed;
    }

    public int clean(int curtain) throws IndexOutOfBoundsException {
        needCurtain(curtain);
        saveState();
        int shots = at(now.sinceCleaned, curtain);
        put(now.sinceCleaned, curtain, 0);
        return shots;
    }

    public int correct(int speed, int correction) throws IndexOutOfBoundsException, IllegalArgumentException {
        needSpeed(speed);
        needRange(correction, -MOST_CORRECTION, MOST_CORRECTION);
        saveState();
        int previous = at(now.corrections, speed);
        put(now.corrections, speed, correction);
        return previous + SHIFT;
    }

    public int set(int setting, int value) throws IndexOutOfBoundsException, IllegalArgumentException {
        needSetting(setting);
        needRange(value, leastValue(setting), mostValue(setting));
        saveState();
        int previous = at(now.settings, setting);
        put(now.settings, setting, value);
        return previous;
    }

    public int shoot(int speed, int shots) throws IndexOutOfBoundsException, IllegalArgumentException {
        needSpeed(speed);
        needRange(shots, 1, MOST_SHOTS);
        saveState();
        fire(now, speed, shots);
        return exposure.spread();
    }

    // ---- texts

    public int append(int code) throws IllegalArgumentException, IllegalStateException {
        needRange(code, 33, 126);
        if (length >= BUFFER_LENGTH) {
            throw new IllegalStateException("the buffer is full");
        }
        put(buffer, length, code);
        length++;
        return length;
    }

    public int clearBuffer() {
        int had = length;
        length = 0;
        return had;
    }

    public int firstError() {
        int place = AT_PART;
        for (int k = 0; k < length; k++) {
            place = placeAfter(place, at(buffer, k));
            if (place == WRONG) {
                return k;
            }
        }
        return length;
    }

    public int play() throws IllegalArgumentException {
        if (!isComplete()) {
            throw new IllegalArgumentException("not complete shots as a text");
        }
        saveState();
        int made = 0;
        int start = 0;
        for (int k = 0; k <= length; k++) {
            if (k == length || at(buffer, k) == ';') {
                made += playPart(start, k);
                start = k + 1;
            }
        }
        length = 0;
        return made;
    }

    public int undo() throws IllegalStateException {
        if (savedStates < 1) {
            throw new IllegalStateException("no state is saved");
        }
        nextSaved = nextSaved > 0 ? nextSaved - 1 : MOST_SAVED - 1;
        savedStates--;
        Shutter latest = savedAt(nextSaved);
        if (latest != null) {
            now.become(latest);
        }
        return savedStates;
    }

    // ---- looks; nothing is changed

    public int curtain(int curtain, int what) throws IndexOutOfBoundsException, IllegalArgumentException {
        needCurtain(curtain);
        needRange(what, 0, 3);
        switch (what) {
            case 0:
                return at(now.springs, curtain);
            case 1:
                return at(now.sinceCleaned, curtain);
            case 2:
                return now.ticksForAll(curtain);
            default:
                return now.slowestColumn(curtain);
        }
    }

    public int column(int speed, int column, int what)
            throws IndexOutOfBoundsException, IllegalArgumentException {
        needSpeed(speed);
        needIndex(column, COLUMNS);
        needRange(what, 0, 5);
        exposure.expose(now, speed);
        switch (what) {
            case 0:
                return at(exposure.leftAt, column);
            case 1:
                return at(exposure.coveredAt, column);
            case 2:
                return at(exposure.light, column);
            case 3:
                return Math.abs(at(exposure.light, column) - wantedLight(speed));
            case 4:
                return at(now.dragsOf(0), column);
            default:
                return at(now.dragsOf(1), column);
        }
    }

    public int speed(int speed, int what) throws IndexOutOfBoundsException, IllegalArgumentException {
        needSpeed(speed);
        needRange(what, 0, 8);
        exposure.expose(now, speed);
        switch (what) {
            case 0:
                return wantedLight(speed);
            case 1:
                return at(now.corrections, speed) + SHIFT;
            case 2:
                return now.startOfSecond(speed);
            case 3:
                return exposure.allLight;
            case 4:
                return exposure.spread();
            case 5:
                return exposure.worstError;
            case 6:
                return exposure.worstColumn;
            case 7:
                return exposure.darkColumns;
            default:
                return at(now.shotsWith, speed);
        }
    }

    public int count(int what) throws IllegalArgumentException {
        needRange(what, 0, 4);
        switch (what) {
            case 0:
                return now.shots;
            case 1:
                return now.lastLight;
            case 2:
                return now.bounceColumns();
            case 3:
                return now.greatestSpread;
            default:
                return savedStates;
        }
    }

    public int setting(int setting) throws IndexOutOfBoundsException {
        needSetting(setting);
        return at(now.settings, setting);
    }

    // ---- what would be; nothing is changed

    public int bestCorrection(int speed) throws IndexOutOfBoundsException {
        needSpeed(speed);
        probe.become(now);
        int best = -MOST_CORRECTION;
        int least = NONE;
        for (int correction = -MOST_CORRECTION; correction <= MOST_CORRECTION; correction++) {
            put(probe.corrections, speed, correction);
            exposure.expose(probe, speed);
            if (least == NONE || exposure.allErrors < least) {
                least = exposure.allErrors;
                best = correction;
            }
        }
        return best + SHIFT;
    }

    public int bestSpring(int curtain, int speed) throws IndexOutOfBoundsException {
        needCurtain(curtain);
        needSpeed(speed);
        probe.become(now);
        int best = 1;
        int least = NONE;
        for (int spring = 1; spring <= MOST_SPRING; spring++) {
            put(probe.springs, curtain, spring);
            exposure.expose(probe, speed);
            if (least == NONE || exposure.spread() < least) {
                least = exposure.spread();
                best = spring;
            }
        }
        return best;
    }

    public int ifShot(int speed, int shots, int what)
            throws IndexOutOfBoundsException, IllegalArgumentException {
        needSpeed(speed);
        needRange(shots, 1, MOST_SHOTS);
        needRange(what, 0, 2);
        probe.become(now);
        fire(probe, speed, shots);
        switch (what) {
            case 0:
                return exposure.spread();
            case 1:
                return at(probe.springs, 0);
            default:
                return exposure.worstError;
        }
    }

    public int goodFor(int speed, int error) throws IndexOutOfBoundsException, IllegalArgumentException {
        needSpeed(speed);
        needRange(error, 0, MOST_ERROR);
        probe.become(now);
        for (int good = 0; good < MOST_GOOD_SHOTS; good++) {
            exposure.expose(probe, speed);
            if (exposure.worstError > error) {
                return good;
            }
            probe.tally(speed, exposure);
        }
        return MOST_GOOD_SHOTS;
    }

    public double evenness(int speed) throws IndexOutOfBoundsException {
        needSpeed(speed);
        exposure.expose(now, speed);
        if (exposure.mostLight <= 0) {
            return 1.0;
        }
        return (double) exposure.leastLight / (double) exposure.mostLight;
    }

    public long digest() {
        long hash = 3191L;
        for (int what = 0; what <= 4; what++) {
            hash = mix(hash, count(what));
        }
        for (int setting = 0; setting < SETTINGS; setting++) {
            hash = mix(hash, setting(setting));
        }
        hash = mixCurtains(hash);
        hash = mixSpeeds(hash);
        hash = mixColumn(hash, 0);
        hash = mixColumn(hash, 11);
        hash = mixColumn(hash, 23);
        hash = mix(hash, bestCorrection(1));
        hash = mix(hash, bestSpring(1, 2));
        for (int what = 0; what <= 2; what++) {
            hash = mix(hash, ifShot(0, 9, what));
        }
        hash = mix(hash, goodFor(3, 60));
        hash = mix(hash, bitsOfShare(evenness(2)));
        hash = mix(hash, length);
        for (int k = 0; k < length; k++) {
            hash = mix(hash, at(buffer, k));
        }
        return hash;
    }

    // ---- parts of the digest

    private long mixCurtains(long before) {
        long hash = before;
        for (int curtain = 0; curtain < CURTAINS; curtain++) {
            for (int what = 0; what <= 3; what++) {
                hash = mix(hash, curtain(curtain, what));
            }
            for (int column = 0; column < COLUMNS; column++) {
                hash = mix(hash, at(now.dragsOf(curtain), column));
            }
        }
        return hash;
    }

    private long mixSpeeds(long before) {
        long hash = before;
        for (int speed = 0; speed < SPEEDS; speed++) {
            for (int what = 0; what <= 8; what++) {
                hash = mix(hash, speed(speed, what));
            }
        }
        return hash;
    }

    private long mixColumn(long before, int column) {
        long hash = before;
        for (int what = 0; what <= 3; what++) {
            hash = mix(hash, column(2, column, what));
        }
        return hash;
    }

    private static long mix(long hash, long value) {
        return 31L * hash + value;
    }

    /**
     * The bits of a share of 0.0 to 1.0 as a double, worked out here because LANGUAGE.md leaves the
     * library's function for it out. Each step is exact, so that no bit is lost.
     */
    private static long bitsOfShare(double share) {
        if (share <= 0.0) {
            return 0L;
        }
        long exponent = 1023L;
        double scaled = share;
        for (int k = 0; k < 1022 && scaled < 1.0; k++) {
            scaled = scaled * 2.0;
            exponent--;
        }
        return (exponent << 52) + (long) ((scaled - 1.0) * 4503599627370496.0);
    }

    // ---- shots and saved states

    /** Leaves the exposure of the last shot behind, for what the caller tells of it. */
    private void fire(Shutter shutter, int speed, int shots) {
        for (int k = 0; k < shots; k++) {
            exposure.expose(shutter, speed);
            shutter.tally(speed, exposure);
        }
    }

    private Shutter savedAt(int index) {
        return index >= 0 && index < saved.length ? saved[index] : null;
    }

    private void saveState() {
        // The place behind the latest state is free, or holds the oldest one, which is dropped.
        Shutter place = savedAt(nextSaved);
        if (place != null) {
            place.become(now);
        }
        nextSaved = nextSaved < MOST_SAVED - 1 ? nextSaved + 1 : 0;
        savedStates = Math.min(savedStates + 1, MOST_SAVED);
    }

    // ---- shots as a text

    private boolean isComplete() {
        int place = AT_PART;
        for (int k = 0; k < length && place != WRONG; k++) {
            place = placeAfter(place, at(buffer, k));
        }
        return place == AFTER_SPEED || place == AFTER_PART || place == AFTER_SPRING_DIGIT;
    }

    private static int placeAfter(int place, int code) {
        switch (place) {
            case AT_PART:
                return placeAfterFirst(code);
            case AFTER_SPEED:
                return code == '*' ? AFTER_STAR : placeAfterPart(code);
            case AFTER_STAR:
                return code >= '2' && code <= '9' ? AFTER_PART : WRONG;
            case AFTER_PART:
                return placeAfterPart(code);
            case AFTER_W:
                return isCurtainDigit(code) ? AFTER_W_CURTAIN : WRONG;
            case AFTER_W_CURTAIN:
                return code == ':' ? AFTER_COLON : WRONG;
            case AFTER_COLON:
                return code >= '1' && code <= '9' ? AFTER_SPRING_DIGIT : WRONG;
            case AFTER_SPRING_DIGIT:
                return code >= '0' && code <= '9' ? AFTER_PART : placeAfterPart(code);
            case AFTER_C:
                return isCurtainDigit(code) ? AFTER_PART : WRONG;
            default:
                return WRONG;
        }
    }

    private static int placeAfterFirst(int code) {
        if (code == 'w') {
            return AFTER_W;
        }
        if (code == 'c') {
            return AFTER_C;
        }
        return code >= '0' && code < '0' + SPEEDS ? AFTER_SPEED : WRONG;
    }

    private static int placeAfterPart(int code) {
        return code == ';' ? AT_PART : WRONG;
    }

    private static boolean isCurtainDigit(int code) {
        return code >= '0' && code < '0' + CURTAINS;
    }

    /** Does the part from start up to end, and returns how many shots it made. */
    private int playPart(int start, int end) {
        int first = at(buffer, start);
        if (first == 'w') {
            put(now.springs, digitAt(start + 1), springOfText(start + 3, end));
            return 0;
        }
        if (first == 'c') {
            put(now.sinceCleaned, digitAt(start + 1), 0);
            return 0;
        }
        int shots = end - start > 1 ? digitAt(start + 2) : 1;
        fire(now, digitAt(start), shots);
        return shots;
    }

    private int springOfText(int start, int end) {
        int spring = digitAt(start);
        return end - start > 1 ? 10 * spring + digitAt(start + 1) : spring;
    }

    private int digitAt(int place) {
        return at(buffer, place) - '0';
    }

    // ---- what arguments may be

    private static void needCurtain(int curtain) {
        needIndex(curtain, CURTAINS);
    }

    private static void needSpeed(int speed) {
        needIndex(speed, SPEEDS);
    }

    private static void needSetting(int setting) {
        needIndex(setting, SETTINGS);
    }

    private static void needIndex(int index, int bound) {
        if (index < 0 || index >= bound) {
            throw new IndexOutOfBoundsException("no such curtain, column, speed or setting");
        }
    }

    private static void needRange(int value, int least, int most) {
        if (value < least || value > most) {
            throw new IllegalArgumentException("a value is out of range");
        }
    }

    private static int leastValue(int setting) {
        return setting == DUST || setting == BOUNCE_TICKS ? 0 : 1;
    }

    private static int mostValue(int setting) {
        switch (setting) {
            case DUST:
                return 20;
            case BOUNCE_TICKS:
                return 200;
            default:
                return 99;
        }
    }

    private static int wantedLight(int speed) {
        return 20 << speed;
    }

    // ---- rows
    // The arguments are looked at before they come here; the look at each index here keeps
    // the machine itself from throwing, wherever a caller might be mistaken.

    private static int at(int[] row, int index) {
        return index >= 0 && index < row.length ? row[index] : 0;
    }

    private static void put(int[] row, int index, int value) {
        if (index >= 0 && index < row.length) {
            row[index] = value;
        }
    }

    private static void copyRow(int[] source, int[] target) {
        for (int k = 0; k < source.length && k < target.length; k++) {
            target[k] = source[k];
        }
    }

    /** All that undo restores. */
    private static final class Shutter {
        final int[] springs;
        final int[] sinceCleaned;
        final int[] firstDrags;
        final int[] secondDrags;
        final int[] corrections;
        final int[] settings;
        final int[] shotsWith;
        int shots;
        int lastLight;
        int greatestSpread;

        Shutter() {
            springs = new int[] {50, 50};
            sinceCleaned = new int[CURTAINS];
            firstDrags = new int[COLUMNS];
            secondDrags = new int[COLUMNS];
            corrections = new int[SPEEDS];
            settings = new int[] {1, 60, 30, 20};
            shotsWith = new int[SPEEDS];
            shots = 0;
            lastLight = 0;
            greatestSpread = 0;
        }

        void become(Shutter other) {
            copyRow(other.springs, springs);
            copyRow(other.sinceCleaned, sinceCleaned);
            copyRow(other.firstDrags, firstDrags);
            copyRow(other.secondDrags, secondDrags);
            copyRow(other.corrections, corrections);
            copyRow(other.settings, settings);
            copyRow(other.shotsWith, shotsWith);
            shots = other.shots;
            lastLight = other.lastLight;
            greatestSpread = other.greatestSpread;
        }

        int[] dragsOf(int curtain) {
            return curtain == 0 ? firstDrags : secondDrags;
        }

        /** The ticks that a curtain takes for any column, but for the column's drag. */
        int ticksWithoutDrag(int curtain) {
            int spring = at(springs, curtain);
            int run = spring > 0 ? 1000 / spring : 0;
            return run + at(settings, DUST) * (at(sinceCleaned, curtain) / 10);
        }

        int ticksForAll(int curtain) {
            int[] drags = dragsOf(curtain);
            int ticks = COLUMNS * ticksWithoutDrag(curtain);
            for (int k = 0; k < drags.length; k++) {
                ticks += drags[k];
            }
            return ticks;
        }

        /** The columns of a curtain differ by their drags alone. */
        int slowestColumn(int curtain) {
            int[] drags = dragsOf(curtain);
            int slowest = 0;
            for (int k = 0; k < drags.length; k++) {
                if (drags[k] > at(drags, slowest)) {
                    slowest = k;
                }
            }
            return slowest;
        }

        int startOfSecond(int speed) {
            return Math.max(0, wantedLight(speed) + at(corrections, speed));
        }

        int bounceColumns() {
            int above = at(springs, 0) - at(settings, CALM_SPRING);
            return above > 0 ? Math.min(above / 5, MOST_BOUNCE_COLUMNS) : 0;
        }

        /** Counts a shot that got this exposure, and wears the shutter by it. */
        void tally(int speed, Exposure exposure) {
            shots++;
            put(shotsWith, speed, at(shotsWith, speed) + 1);
            lastLight = exposure.allLight;
            greatestSpread = Math.max(greatestSpread, exposure.spread());
            int shotsPerWear = at(settings, SHOTS_PER_WEAR);
            boolean wears = shotsPerWear > 0 && shots % shotsPerWear == 0;
            for (int k = 0; k < CURTAINS; k++) {
                put(sinceCleaned, k, at(sinceCleaned, k) + 1);
                if (wears) {
                    put(springs, k, Math.max(1, at(springs, k) - 1));
                }
            }
        }
    }

    /** What the columns get in one shot; its rows are used again for each. */
    private static final class Exposure {
        final int[] leftAt;
        final int[] coveredAt;
        final int[] light;
        int allLight;
        int leastLight;
        int mostLight;
        int allErrors;
        int worstError;
        int worstColumn;
        int darkColumns;

        Exposure() {
            leftAt = new int[COLUMNS];
            coveredAt = new int[COLUMNS];
            light = new int[COLUMNS];
        }

        int spread() {
            return mostLight - leastLight;
        }

        void expose(Shutter shutter, int speed) {
            runCurtains(shutter, speed);
            openColumns(shutter);
            sumUp(wantedLight(speed));
        }

        private void runCurtains(Shutter shutter, int speed) {
            int firstTicks = shutter.ticksWithoutDrag(0);
            int secondTicks = shutter.ticksWithoutDrag(1);
            int left = 0;
            int covered = shutter.startOfSecond(speed);
            for (int k = 0; k < leftAt.length && k < coveredAt.length; k++) {
                left += firstTicks + at(shutter.firstDrags, k);
                covered = Math.max(left, covered + secondTicks + at(shutter.secondDrags, k));
                leftAt[k] = left;
                coveredAt[k] = covered;
            }
        }

        private void openColumns(Shutter shutter) {
            int bounceStart = at(leftAt, COLUMNS - 1);
            int bounceEnd = bounceStart + at(shutter.settings, BOUNCE_TICKS);
            int firstBounced = COLUMNS - shutter.bounceColumns();
            for (int k = 0; k < light.length; k++) {
                int covered = at(coveredAt, k);
                int open = covered - at(leftAt, k);
                // The first curtain has left all columns when it bounces: no column opens later.
                int lost = k < firstBounced ? 0 : Math.min(covered, bounceEnd) - bounceStart;
                light[k] = open - Math.max(0, lost);
            }
        }

        private void sumUp(int wanted) {
            allLight = 0;
            leastLight = at(light, 0);
            mostLight = leastLight;
            allErrors = 0;
            worstError = 0;
            worstColumn = 0;
            darkColumns = 0;
            for (int k = 0; k < light.length; k++) {
                int error = Math.abs(light[k] - wanted);
                allLight += light[k];
                allErrors += error;
                leastLight = Math.min(leastLight, light[k]);
                mostLight = Math.max(mostLight, light[k]);
                if (error > worstError) {
                    worstError = error;
                    worstColumn = k;
                }
                if (light[k] == 0) {
                    darkColumns++;
                }
            }
        }
    }
}
