import java.util.ArrayList;
import java.util.List;
import java.util.function.Consumer;
import java.util.function.Supplier;

/** Stores to ask, and what the tests ask of them. */
final class Stores {
    static final int MIN = Integer.MIN_VALUE;
    static final int MAX = Integer.MAX_VALUE;
    static final int ALL = matcher(4, 4, 4);
    static final List<Integer> OUTSIDE_MATCHERS = List.of(-1, 729, -364, 1000, MIN, MAX);
    static final List<Integer> OUTSIDE_TIMES = List.of(-1, 1000, -999, 1001, MIN, MAX);
    static final List<Integer> NEVER_SERIES = List.of(-1, 8, -8, 9, 256, MIN, MAX);

    // The newest times in the stores "over safe": in the safe state, and in the present one.
    private static final int LAST_SAFE = 60;
    private static final int LAST = 93;

    private Stores() {
    }

    static int matcher(int digit0, int digit1, int digit2) {
        return digit0 + 9 * digit1 + 81 * digit2;
    }

    static int labels(int label0, int label1, int label2) {
        return label0 + 4 * label1 + 16 * label2;
    }

    /** A store with one series, labels 0, that has these samples, told as time, value, time, value. */
    static SampleStore oneSeries(int... samples) {
        SampleStore x = new SampleStore();
        x.series(0);
        appendAll(x, 0, samples);
        return x;
    }

    static void appendAll(SampleStore x, int s, int... samples) {
        for (int i = 0; i < samples.length; i += 2) {
            x.append(s, samples[i], samples[i + 1]);
        }
    }

    /** Value i of series s in the full store: 37 and 257 share no factor, so no two are the same. */
    static int valueInFull(int s, int i) {
        return (s * 32 + i) * 37 % 257 - 100;
    }

    /** 8 series of 32 samples at the times 0, 3 .. 93. */
    static SampleStore fullStore() {
        SampleStore x = new SampleStore();
        for (int s = 0; s < 8; s++) {
            x.series(s * 9);
            for (int i = 0; i < 32; i++) {
                x.append(s, i * 3, valueInFull(s, i));
            }
        }
        return x;
    }

    /** 8 series, the first and the last of them full, with fewer samples in the safe state. */
    static SampleStore fullOverSafe() {
        SampleStore x = new SampleStore();
        for (int s = 0; s < 8; s++) {
            x.series(s * 9);
            appendRow(x, s, LAST_SAFE, s % 7 == 0 ? 20 : 1);
        }
        x.sync();
        for (int s = 0; s < 8; s++) {
            appendRow(x, s, LAST, s % 7 == 0 ? 12 : 1);
        }
        return x;
    }

    /** So many samples, the last of them at a time, the others at the times before it. */
    private static void appendRow(SampleStore x, int s, int last, int samples) {
        for (int time = last - samples + 1; time <= last; time++) {
            x.append(s, time, s * 100 - time);
        }
    }

    /** 3 series, one of them empty, with fewer samples and series in the safe state. */
    static SampleStore smallOverSafe() {
        SampleStore x = oneSeries(0, 5, LAST_SAFE, -7);
        x.series(labels(1, 2, 3));
        appendAll(x, 1, 0, 1000, LAST_SAFE, -1000);
        x.sync();
        x.append(0, LAST, 3);
        x.append(1, LAST, 9);
        x.series(labels(3, 3, 3));
        return x;
    }

    /** Whether later calls answer as if the call had not been made, on the small store and on the full one. */
    static boolean leavesAllAsItWas(Consumer<SampleStore> call) {
        return leavesFullAsItWas(call) && leavesAsItWas(Stores::smallOverSafe, call);
    }

    static boolean leavesFullAsItWas(Consumer<SampleStore> call) {
        return leavesAsItWas(Stores::fullOverSafe, call);
    }

    private static boolean leavesAsItWas(Supplier<SampleStore> made, Consumer<SampleStore> call) {
        boolean same = true;
        // Two rounds, because an append at the newest time must not hide what the next time would answer.
        for (int later = 0; later <= 1; later++) {
            SampleStore called = made.get();
            call.accept(called);
            same &= allThatShows(called, later).equals(allThatShows(made.get(), later));
        }
        return same;
    }

    /** What is there, what may be added so much later than the newest times, and what is safe. Changes the store. */
    private static List<Integer> allThatShows(SampleStore x, int later) {
        List<Integer> answers = new ArrayList<>();
        whatIsThere(x, answers);
        addEverywhere(x, LAST + later, answers);
        answers.add(x.crash());
        whatIsThere(x, answers);
        addEverywhere(x, LAST_SAFE + later, answers);
        return answers;
    }

    private static void whatIsThere(SampleStore x, List<Integer> answers) {
        answers.add(x.matching(ALL));
        for (int digit = 0; digit < 4; digit++) {
            answers.add(x.matching(matcher(digit, 4, 4)));
            answers.add(x.matching(matcher(4, digit, 4)));
            answers.add(x.matching(matcher(4, 4, digit)));
        }
        for (int last : new int[] {0, LAST_SAFE - 1, LAST_SAFE, LAST - 1, LAST, MAX}) {
            answers.add(x.count(ALL, MIN, last));
            answers.add(x.sum(ALL, MIN, last));
            answers.add(x.growth(ALL, MIN, last));
        }
        for (int s = 0; s < 8; s++) {
            answers.add(x.length(s));
        }
    }

    /** Makes room, then adds a sample to each series, and a series. */
    private static void addEverywhere(SampleStore x, int time, List<Integer> answers) {
        answers.add(x.expire(LAST_SAFE - 18));
        for (int s = 0; s < 8; s++) {
            answers.add(x.append(s, time, s));
        }
        answers.add(x.series(62));
    }
}
