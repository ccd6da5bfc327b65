import java.util.ArrayList;
import java.util.List;
import java.util.Map;
import java.util.TreeMap;

/** Long runs of mixed calls, each answer held against a plain model written over the Java library. */
public final class RandomRunsTest {
    private static final int RUNS = 1500;
    private static final int CALLS = 512;
    private static final int[] EDGES = {
        Integer.MIN_VALUE, Integer.MIN_VALUE + 1, -1001, -1000, -50, -1, 0, 1, 7, 8, 31, 32, 49, 50, 63, 64,
        728, 729, 999, 1000, 1001, Integer.MAX_VALUE - 1, Integer.MAX_VALUE};

    private static final class Series {
        final int labels;
        int newest = -1;
        final TreeMap<Integer, Integer> samples = new TreeMap<>();

        Series(int labels) {
            this.labels = labels;
        }

        Series copy() {
            Series twin = new Series(labels);
            twin.newest = newest;
            twin.samples.putAll(samples);
            return twin;
        }
    }

    private static final class Model {
        private List<Series> present = new ArrayList<>();
        private List<Series> safe = new ArrayList<>();

        private static List<Series> copy(List<Series> from) {
            List<Series> to = new ArrayList<>();
            from.forEach(series -> to.add(series.copy()));
            return to;
        }

        private boolean has(int s) {
            return s >= 0 && s < present.size();
        }

        private int samples() {
            return present.stream().mapToInt(series -> series.samples.size()).sum();
        }

        int series(int labels) {
            if (labels < 0 || labels > 63) return SampleStore.BAD;
            if (present.stream().anyMatch(series -> series.labels == labels)) return SampleStore.THERE;
            if (present.size() == 8) return SampleStore.FULL;
            present.add(new Series(labels));
            return present.size() - 1;
        }

        int append(int s, int time, int value) {
            if (!has(s) || time < 0 || time > 999 || value < -1000 || value > 1000) return SampleStore.BAD;
            Series series = present.get(s);
            if (time <= series.newest) return SampleStore.OLD;
            if (series.samples.size() == 32) return SampleStore.FULL;
            series.newest = time;
            series.samples.put(time, value);
            return series.samples.size();
        }

        int expire(int time) {
            int before = samples();
            present.forEach(series -> series.samples.headMap(time).clear());
            return before - samples();
        }

        void sync() {
            safe = copy(present);
        }

        int crash() {
            int before = samples();
            present = copy(safe);
            return before - samples();
        }

        private static boolean matches(int labels, int matcher) {
            for (int place = 0; place < 3; place++) {
                int digit = matcher % 9;
                int label = labels % 4;
                if (digit < 4 && label != digit || digit > 4 && label == digit - 5) return false;
                matcher /= 9;
                labels /= 4;
            }
            return true;
        }

        /** The values that a question takes, a list for each series that matches. */
        private List<List<Integer>> taken(int matcher, int t, int u) {
            List<List<Integer>> lists = new ArrayList<>();
            for (Series series : present) {
                if (!matches(series.labels, matcher)) continue;
                Map<Integer, Integer> within = t > u ? Map.of() : series.samples.subMap(t, true, u, true);
                lists.add(new ArrayList<>(within.values()));
            }
            return lists;
        }

        private List<Integer> sorted(int matcher, int t, int u) {
            List<Integer> all = new ArrayList<>();
            taken(matcher, t, u).forEach(all::addAll);
            all.sort(null);
            return all;
        }

        private static boolean bad(int matcher) {
            return matcher < 0 || matcher > 728;
        }

        int count(int matcher, int t, int u) {
            return bad(matcher) ? SampleStore.BAD : sorted(matcher, t, u).size();
        }

        int sum(int matcher, int t, int u) {
            return bad(matcher) ? 0 : sorted(matcher, t, u).stream().mapToInt(value -> value).sum();
        }

        int ranked(int matcher, int t, int u, int k) {
            if (bad(matcher)) return SampleStore.BAD;
            List<Integer> all = sorted(matcher, t, u);
            return k < 0 || k >= all.size() ? SampleStore.NONE : all.get(k);
        }

        int least(int matcher, int t, int u) {
            return ranked(matcher, t, u, 0);
        }

        int most(int matcher, int t, int u) {
            return bad(matcher) ? SampleStore.BAD : ranked(matcher, t, u, count(matcher, t, u) - 1);
        }

        int growth(int matcher, int t, int u) {
            if (bad(matcher)) return 0;
            int total = 0;
            for (List<Integer> list : taken(matcher, t, u)) {
                for (int i = 1; i < list.size(); i++) {
                    int rise = list.get(i) - list.get(i - 1);
                    total += rise >= 0 ? rise : Math.max(list.get(i), 0);
                }
            }
            return total;
        }

        int at(int s, int time) {
            if (!has(s) || time < 0 || time > 999) return SampleStore.BAD;
            Map.Entry<Integer, Integer> latest = present.get(s).samples.floorEntry(time);
            return latest == null || latest.getKey() <= time - 50 ? SampleStore.NONE : latest.getValue();
        }

        int matching(int matcher) {
            if (bad(matcher)) return SampleStore.BAD;
            int bits = 0;
            for (int s = 0; s < present.size(); s++) {
                if (matches(present.get(s).labels, matcher)) bits |= 1 << s;
            }
            return bits;
        }

        int length(int s) {
            return has(s) ? present.get(s).samples.size() : SampleStore.BAD;
        }
    }

    private final Check check;
    private final java.util.Random random;
    private final String run;
    private final int kind;
    private final SampleStore store = new SampleStore();
    private final Model model = new Model();
    private int clock = 0;

    private RandomRunsTest(Check check, int seed) {
        this.check = check;
        this.random = new java.util.Random(seed);
        this.run = "run " + seed + ": ";
        this.kind = seed % 3;
    }

    public static void main(String[] args) {
        Check check = new Check();
        for (int seed = 0; seed < RUNS; seed++) {
            RandomRunsTest one = new RandomRunsTest(check, seed);
            for (int i = 0; i < CALLS; i++) {
                one.call();
            }
        }
        check.end();
    }

    /** Mostly from low to high, now and then an edge. */
    private int number(int low, int high) {
        if (random.nextInt(40) == 0) {
            return EDGES[random.nextInt(EDGES.length)];
        }
        return low + random.nextInt(high - low + 1);
    }

    private int someMatcher() {
        return random.nextInt(3) == 0 ? 364 : number(0, 728);
    }

    private int someSeries() {
        return number(0, kind == 0 ? 1 : 7);
    }

    private int someValue() {
        return kind == 1 ? number(-1000, 1000) : number(-5, 5);
    }

    /** Times go up slowly through a run, so that series fill and expired times come again. */
    private int someTime() {
        clock = Math.min(clock + random.nextInt(kind == 2 ? 4 : 2), 999);
        return random.nextInt(6) == 0 ? number(0, 999) : clock + random.nextInt(3);
    }

    private void call() {
        int choice = random.nextInt(100);
        if (choice < 5) {
            int labels = number(0, 63);
            check.due(run + "series(" + labels + ")", store.series(labels), model.series(labels));
        } else if (choice < 60) {
            append();
        } else if (choice < 62) {
            int time = random.nextInt(4) == 0 ? number(0, 1000) : number(0, clock);
            check.due(run + "expire(" + time + ")", store.expire(time), model.expire(time));
        } else if (choice < 65) {
            store.sync();
            model.sync();
        } else if (choice < 67) {
            check.due(run + "crash()", store.crash(), model.crash());
        } else if (choice < 69) {
            int k = number(-1, 3);
            check.due(run + "level(" + k + ")", store.level(k), k >= 0 && k <= 2);
        } else if (choice < 79) {
            askOfSeries();
        } else {
            askOfMatcher();
        }
    }

    private void append() {
        int s = someSeries();
        int time = someTime();
        int value = someValue();
        check.due(run + "append(" + s + ", " + time + ", " + value + ")",
            store.append(s, time, value), model.append(s, time, value));
    }

    private void askOfSeries() {
        int s = someSeries();
        int time = random.nextBoolean() ? number(0, 999) : number(0, clock + 60);
        switch (random.nextInt(3)) {
            case 0 -> check.due(run + "length(" + s + ")", store.length(s), model.length(s));
            default -> check.due(run + "at(" + s + ", " + time + ")", store.at(s, time), model.at(s, time));
        }
    }

    private void askOfMatcher() {
        int m = someMatcher();
        int t = number(0, clock);
        int u = random.nextInt(8) == 0 ? number(0, 999) : number(t < 0 || t > clock ? 0 : t, clock);
        int k = number(-1, 40);
        String told = "(" + m + ", " + t + ", " + u + ")";
        switch (random.nextInt(7)) {
            case 0 -> check.due(run + "count" + told, store.count(m, t, u), model.count(m, t, u));
            case 1 -> check.due(run + "sum" + told, store.sum(m, t, u), model.sum(m, t, u));
            case 2 -> check.due(run + "least" + told, store.least(m, t, u), model.least(m, t, u));
            case 3 -> check.due(run + "most" + told, store.most(m, t, u), model.most(m, t, u));
            case 4 -> check.due(run + "growth" + told, store.growth(m, t, u), model.growth(m, t, u));
            case 5 -> check.due(run + "ranked" + told + " " + k, store.ranked(m, t, u, k), model.ranked(m, t, u, k));
            default -> check.due(run + "matching(" + m + ")", store.matching(m), model.matching(m));
        }
    }
}
