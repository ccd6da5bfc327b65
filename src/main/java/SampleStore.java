/** A store of series of samples with labels, and questions about them. */
public final class SampleStore {
    public static final int BAD = -10000;
    public static final int FULL = -10001;
    public static final int THERE = -10002;
    public static final int NONE = -10003;
    public static final int OLD = -10004;

    private static final int MOST_SERIES = 8;
    private static final int MOST_SAMPLES = 32;
    private static final int SLOTS = MOST_SERIES * MOST_SAMPLES;
    private static final int LAST_LABELS = 63;
    private static final int LAST_TIME = 999;
    private static final int LAST_VALUE = 1000;
    private static final int LAST_MATCHER = 728;
    private static final int LAST_LEVEL = 2;
    private static final int ANY = 4;
    private static final int FIRST_ANY_BUT = 5;
    private static final int REACH = 50;
    private static final int BEFORE_ALL_TIMES = -1;

    // Sample i of series s stands at slot s * MOST_SAMPLES + i, oldest first.
    private int seriesCount = 0;
    private final int[] labelsOf = new int[MOST_SERIES];
    private final int[] lengthOf = new int[MOST_SERIES];
    // Kept apart from the samples because it outlives those that expire.
    private final int[] newestOf = new int[MOST_SERIES];
    private final int[] times = new int[SLOTS];
    private final int[] values = new int[SLOTS];

    private int safeSeriesCount = 0;
    private final int[] safeLabelsOf = new int[MOST_SERIES];
    private final int[] safeLengthOf = new int[MOST_SERIES];
    private final int[] safeNewestOf = new int[MOST_SERIES];
    private final int[] safeTimes = new int[SLOTS];
    private final int[] safeValues = new int[SLOTS];

    // Scratch of one question: filled by take() and read before the call ends.
    private final int[] takenValues = new int[SLOTS];
    private final int[] takenSeries = new int[SLOTS];

    // Remembered only: the document lets no answer depend on it, so all levels keep things alike.
    private int keepingLevel;

    public SampleStore() {
        keepingLevel = LAST_LEVEL;
    }

    public int series(int labels) {
        if (labels < 0 || labels > LAST_LABELS) {
            return BAD;
        }
        if (hasLabels(labels)) {
            return THERE;
        }
        if (seriesCount >= MOST_SERIES) {
            return FULL;
        }
        int made = seriesCount;
        labelsOf[made] = labels;
        lengthOf[made] = 0;
        newestOf[made] = BEFORE_ALL_TIMES;
        seriesCount = made + 1;
        return made;
    }

    public int append(int s, int time, int value) {
        if (!isSeries(s) || !isTime(time) || value < -LAST_VALUE || value > LAST_VALUE) {
            return BAD;
        }
        if (time <= newestOf[s]) {
            return OLD;
        }
        int length = lengthOf[s];
        if (length >= MOST_SAMPLES) {
            return FULL;
        }
        int slot = s * MOST_SAMPLES + length;
        times[slot] = time;
        values[slot] = value;
        newestOf[s] = time;
        lengthOf[s] = length + 1;
        return length + 1;
    }

    public int expire(int time) {
        int gone = 0;
        for (int s = 0; s < seriesCount; s++) {
            int old = samplesBelow(s, time);
            dropOldest(s, old);
            gone += old;
        }
        return gone;
    }

    public void sync() {
        safeSeriesCount = seriesCount;
        copy(labelsOf, safeLabelsOf, MOST_SERIES);
        copy(lengthOf, safeLengthOf, MOST_SERIES);
        copy(newestOf, safeNewestOf, MOST_SERIES);
        copy(times, safeTimes, SLOTS);
        copy(values, safeValues, SLOTS);
    }

    public int crash() {
        int before = sampleCount();
        seriesCount = safeSeriesCount;
        copy(safeLabelsOf, labelsOf, MOST_SERIES);
        copy(safeLengthOf, lengthOf, MOST_SERIES);
        copy(safeNewestOf, newestOf, MOST_SERIES);
        copy(safeTimes, times, SLOTS);
        copy(safeValues, values, SLOTS);
        return before - sampleCount();
    }

    public int count(int matcher, int t, int u) {
        if (!isMatcher(matcher)) {
            return BAD;
        }
        return take(matcher, t, u);
    }

    public int sum(int matcher, int t, int u) {
        if (!isMatcher(matcher)) {
            return 0;
        }
        int taken = take(matcher, t, u);
        int total = 0;
        for (int i = 0; i < taken; i++) {
            total += takenValues[i];
        }
        return total;
    }

    public int least(int matcher, int t, int u) {
        if (!isMatcher(matcher)) {
            return BAD;
        }
        int taken = take(matcher, t, u);
        if (taken == 0) {
            return NONE;
        }
        int smallest = takenValues[0];
        for (int i = 1; i < taken; i++) {
            if (takenValues[i] < smallest) {
                smallest = takenValues[i];
            }
        }
        return smallest;
    }

    public int most(int matcher, int t, int u) {
        if (!isMatcher(matcher)) {
            return BAD;
        }
        int taken = take(matcher, t, u);
        if (taken == 0) {
            return NONE;
        }
        int greatest = takenValues[0];
        for (int i = 1; i < taken; i++) {
            if (takenValues[i] > greatest) {
                greatest = takenValues[i];
            }
        }
        return greatest;
    }

    public int growth(int matcher, int t, int u) {
        if (!isMatcher(matcher)) {
            return 0;
        }
        int taken = take(matcher, t, u);
        int total = 0;
        for (int i = 1; i < taken; i++) {
            if (takenSeries[i] == takenSeries[i - 1]) {
                total += step(takenValues[i - 1], takenValues[i]);
            }
        }
        return total;
    }

    public int at(int s, int time) {
        if (!isSeries(s) || !isTime(time)) {
            return BAD;
        }
        int first = s * MOST_SAMPLES;
        for (int i = first + lengthOf[s] - 1; i >= first; i--) {
            if (times[i] <= time) {
                return times[i] > time - REACH ? values[i] : NONE;
            }
        }
        return NONE;
    }

    public int ranked(int matcher, int t, int u, int k) {
        if (!isMatcher(matcher)) {
            return BAD;
        }
        int taken = take(matcher, t, u);
        if (k < 0 || k >= taken) {
            return NONE;
        }
        sortTakenValues(taken);
        return takenValues[k];
    }

    public int matching(int matcher) {
        if (!isMatcher(matcher)) {
            return BAD;
        }
        int bits = 0;
        for (int s = 0; s < seriesCount; s++) {
            if (matches(s, matcher)) {
                bits |= 1 << s;
            }
        }
        return bits;
    }

    public int length(int s) {
        return isSeries(s) ? lengthOf[s] : BAD;
    }

    public boolean level(int k) {
        if (k < 0 || k > LAST_LEVEL) {
            return false;
        }
        keepingLevel = k;
        return true;
    }

    private boolean isSeries(int s) {
        return s >= 0 && s < seriesCount;
    }

    private boolean isTime(int time) {
        return time >= 0 && time <= LAST_TIME;
    }

    private boolean isMatcher(int matcher) {
        return matcher >= 0 && matcher <= LAST_MATCHER;
    }

    private boolean hasLabels(int labels) {
        for (int s = 0; s < seriesCount; s++) {
            if (labelsOf[s] == labels) {
                return true;
            }
        }
        return false;
    }

    private boolean matches(int s, int matcher) {
        int labels = labelsOf[s];
        return holds(matcher % 9, labels % 4)
            && holds(matcher / 9 % 9, labels / 4 % 4)
            && holds(matcher / 81, labels / 16);
    }

    private boolean holds(int digit, int label) {
        if (digit == ANY) {
            return true;
        }
        return digit < ANY ? label == digit : label != digit - FIRST_ANY_BUT;
    }

    /** Answers how many samples the question takes; they stand series by series, oldest first. */
    private int take(int matcher, int t, int u) {
        int taken = 0;
        for (int s = 0; s < seriesCount; s++) {
            if (matches(s, matcher)) {
                taken = takeFrom(s, t, u, taken);
            }
        }
        return taken;
    }

    private int takeFrom(int s, int t, int u, int takenBefore) {
        int taken = takenBefore;
        int first = s * MOST_SAMPLES;
        int end = first + lengthOf[s];
        for (int i = first; i < end; i++) {
            if (times[i] >= t && times[i] <= u) {
                takenValues[taken] = values[i];
                takenSeries[taken] = s;
                taken++;
            }
        }
        return taken;
    }

    private int step(int earlier, int later) {
        if (later >= earlier) {
            return later - earlier;
        }
        return later > 0 ? later : 0;
    }

    private void sortTakenValues(int taken) {
        for (int i = 1; i < taken; i++) {
            int value = takenValues[i];
            int place = i;
            while (place > 0 && takenValues[place - 1] > value) {
                takenValues[place] = takenValues[place - 1];
                place--;
            }
            takenValues[place] = value;
        }
    }

    private int samplesBelow(int s, int time) {
        int first = s * MOST_SAMPLES;
        int below = 0;
        for (int i = 0; i < lengthOf[s]; i++) {
            if (times[first + i] < time) {
                below++;
            }
        }
        return below;
    }

    private void dropOldest(int s, int dropped) {
        int first = s * MOST_SAMPLES;
        int left = lengthOf[s] - dropped;
        for (int i = 0; i < left; i++) {
            times[first + i] = times[first + dropped + i];
            values[first + i] = values[first + dropped + i];
        }
        lengthOf[s] = left;
    }

    private int sampleCount() {
        int total = 0;
        for (int s = 0; s < seriesCount; s++) {
            total += lengthOf[s];
        }
        return total;
    }

    private void copy(int[] from, int[] to, int size) {
        for (int i = 0; i < size; i++) {
            to[i] = from[i];
        }
    }
}
