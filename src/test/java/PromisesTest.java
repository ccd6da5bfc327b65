/** For each promise of the document: ordinary inputs. Its boundary cases have tests of their own beside this one. */
public final class PromisesTest {
    private static final int ALL = Stores.ALL;
    private static final Check check = new Check();

    public static void main(String[] args) {
        check.sentence("1: a new object", PromisesTest::newObject);
        check.sentence("2: series", PromisesTest::series);
        check.sentence("3: append", PromisesTest::append);
        check.sentence("4: expire", PromisesTest::expire);
        check.sentence("5: sync", PromisesTest::sync);
        check.sentence("6: crash", PromisesTest::crash);
        check.sentence("7: count", PromisesTest::count);
        check.sentence("8: sum", PromisesTest::sum);
        check.sentence("9: least", PromisesTest::least);
        check.sentence("10: most", PromisesTest::most);
        check.sentence("11: growth", PromisesTest::growth);
        check.sentence("12: at", PromisesTest::at);
        check.sentence("13: ranked", PromisesTest::ranked);
        check.sentence("14: matching", PromisesTest::matching);
        check.sentence("15: length", PromisesTest::length);
        check.sentence("16: level", PromisesTest::level);
        check.end();
    }

    /** Series 0 with labels 0 1 2, series 1 with labels 3 1 0, series 2 with labels 0 0 2 and no samples. */
    private static SampleStore threeSeries() {
        SampleStore x = new SampleStore();
        x.series(Stores.labels(0, 1, 2));
        x.series(Stores.labels(3, 1, 0));
        x.series(Stores.labels(0, 0, 2));
        Stores.appendAll(x, 0, 100, 40, 200, 90, 300, 70, 400, -20);
        Stores.appendAll(x, 1, 150, 500, 250, -600, 350, 500);
        return x;
    }

    private static void newObject() {
        SampleStore x = new SampleStore();
        check.due("count", x.count(ALL, 0, 999), 0);
        check.due("matching", x.matching(ALL), 0);
    }

    private static void series() {
        SampleStore x = new SampleStore();
        check.due("first", x.series(27), 0);
        check.due("second", x.series(5), 1);
        check.due("the first's labels", x.series(27), SampleStore.THERE);
        check.due("third", x.series(44), 2);
    }

    private static void append() {
        SampleStore x = Stores.oneSeries();
        x.series(1);
        check.due("first of series 0", x.append(0, 100, 5), 1);
        check.due("second of series 0", x.append(0, 230, -6), 2);
        check.due("first of series 1", x.append(1, 170, 7), 1);
        check.due("an old time", x.append(0, 170, 8), SampleStore.OLD);
        check.due("at 100", x.at(0, 100), 5);
        check.due("at 230", x.at(0, 230), -6);
        check.due("at 170", x.at(1, 170), 7);
    }

    private static void expire() {
        SampleStore x = threeSeries();
        check.due("below 220", x.expire(220), 3);
        check.due("series 0", x.length(0), 2);
        check.due("series 1", x.length(1), 2);
        check.due("what is left", x.sum(ALL, 0, 999), 70 - 20 - 600 + 500);
        check.due("the rest", x.expire(500), 4);
    }

    private static void sync() {
        SampleStore x = threeSeries();
        x.sync();
        check.due("it takes nothing away", x.count(ALL, 0, 999), 7);
        x.append(2, 500, 1);
        x.sync();
        x.append(2, 600, 2);
        x.crash();
        check.due("the newest sync counts", x.count(ALL, 0, 999), 8);
    }

    private static void crash() {
        SampleStore x = threeSeries();
        x.sync();
        Stores.appendAll(x, 2, 500, 1, 600, 2);
        check.due("two samples fewer", x.crash(), 2);
        check.due("they are lost", x.length(2), 0);
        x.expire(320);
        check.due("five samples more", x.crash(), -5);
        check.due("they are back", x.sum(ALL, 0, 999), 580);
    }

    private static void count() {
        SampleStore x = threeSeries();
        check.due("all", x.count(ALL, 0, 999), 7);
        check.due("a stretch", x.count(ALL, 180, 320), 3);
        check.due("label 0 is 3", x.count(Stores.matcher(3, 4, 4), 0, 999), 3);
        check.due("label 0 is not 3", x.count(Stores.matcher(8, 4, 4), 0, 999), 4);
    }

    private static void sum() {
        SampleStore x = threeSeries();
        check.due("all", x.sum(ALL, 0, 999), 580);
        check.due("a stretch", x.sum(ALL, 180, 320), 90 + 70 - 600);
        check.due("label 2 is 0", x.sum(Stores.matcher(4, 4, 0), 0, 999), 400);
    }

    private static void least() {
        SampleStore x = threeSeries();
        check.due("all", x.least(ALL, 0, 999), -600);
        check.due("a stretch", x.least(ALL, 260, 500), -20);
        check.due("label 0 is 0", x.least(Stores.matcher(0, 4, 4), 0, 350), 40);
    }

    private static void most() {
        SampleStore x = threeSeries();
        check.due("all", x.most(ALL, 0, 999), 500);
        check.due("a stretch", x.most(ALL, 180, 320), 90);
        check.due("label 0 is 0", x.most(Stores.matcher(0, 4, 4), 250, 999), 70);
    }

    private static void growth() {
        SampleStore x = threeSeries();
        check.due("all", x.growth(ALL, 0, 999), 50 + 70 + 1100);
        check.due("a stretch", x.growth(ALL, 180, 320), 70);
        check.due("label 0 is 3", x.growth(Stores.matcher(3, 4, 4), 0, 999), 1100);
    }

    private static void at() {
        SampleStore x = threeSeries();
        check.due("a little after the first", x.at(0, 120), 40);
        check.due("a little after the third", x.at(0, 320), 70);
        check.due("long after", x.at(0, 180), SampleStore.NONE);
        check.due("the other series", x.at(1, 270), -600);
    }

    private static void ranked() {
        SampleStore x = threeSeries();
        int[] ascending = {-600, -20, 40, 70, 90, 500, 500};
        for (int k = 0; k < ascending.length; k++) {
            check.due("number " + k, x.ranked(ALL, 0, 999, k), ascending[k]);
        }
        check.due("a stretch", x.ranked(ALL, 180, 320, 1), 70);
        check.due("label 0 is 0", x.ranked(Stores.matcher(0, 4, 4), 0, 999, 2), 70);
    }

    private static void matching() {
        SampleStore x = threeSeries();
        check.due("any", x.matching(ALL), 0b111);
        check.due("label 0 is 0", x.matching(Stores.matcher(0, 4, 4)), 0b101);
        check.due("label 1 is 1", x.matching(Stores.matcher(4, 1, 4)), 0b011);
        check.due("label 2 is not 2", x.matching(Stores.matcher(4, 4, 7)), 0b010);
        check.due("0 1 2", x.matching(Stores.matcher(0, 1, 2)), 0b001);
        check.due("0, not 1, 2", x.matching(Stores.matcher(0, 6, 2)), 0b100);
    }

    private static void length() {
        SampleStore x = threeSeries();
        check.due("series 0", x.length(0), 4);
        check.due("series 1", x.length(1), 3);
        check.due("series 2", x.length(2), 0);
        check.due("no series 3", x.length(3), SampleStore.BAD);
    }

    private static void level() {
        SampleStore x = threeSeries();
        check.due("level 1", x.level(1), true);
        check.due("level 5", x.level(5), false);
        check.due("sum", x.sum(ALL, 0, 999), 580);
    }
}
