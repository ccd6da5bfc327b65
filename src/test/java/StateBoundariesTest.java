/** The boundary cases of the calls that change the store (promises 1 to 6 and 16), a test for each sentence. */
public final class StateBoundariesTest {
    private static final int MIN = Stores.MIN;
    private static final int MAX = Stores.MAX;
    private static final int ALL = Stores.ALL;
    private static final int BAD = SampleStore.BAD;
    private static final int FULL = SampleStore.FULL;
    private static final int THERE = SampleStore.THERE;
    private static final int NONE = SampleStore.NONE;
    private static final int OLD = SampleStore.OLD;
    private static final Check check = new Check();

    public static void main(String[] args) {
        aboutTheObject();
        aboutSeries();
        aboutAppend();
        aboutExpire();
        aboutSyncAndCrash();
        aboutLevel();
        check.end();
    }

    // The document's words, each with its test

    private static void aboutTheObject() {
        check.sentence("What it is: used for at most 512 calls", StateBoundariesTest::the512thCallAnswers);
        check.sentence("Terms: at first both (the present state and the safe one) are empty",
            StateBoundariesTest::bothStatesAreEmptyAtFirst);
        check.sentence("1: Empty", StateBoundariesTest::aNewObjectIsEmpty);
        check.sentence("1: Empty, whatever other objects hold", StateBoundariesTest::aNewObjectSharesNothing);
    }

    private static void aboutSeries() {
        check.sentence("Terms: up to 8 series, numbered from 0 in the order in which they were made",
            StateBoundariesTest::seriesAreNumberedFromZeroToSeven);
        check.sentence("Terms: labels with values from 0 to 3", StateBoundariesTest::eachOfThe64LabelsCanBeMade);
        check.sentence("Terms: no two series have the same three", StateBoundariesTest::labelsThatDifferInOneAreOthers);
        check.sentence("2: label 0 is labels % 4, label 1 labels / 4 % 4, label 2 labels / 16",
            StateBoundariesTest::labelsWrapFromOneToTheNext);
        check.sentence("2: labels outside 0..63: BAD", StateBoundariesTest::labelsOutsideAreBad);
        check.sentence("2: there is one with these: THERE", StateBoundariesTest::labelsThatAreThere);
        check.sentence("2: 8 are there: FULL", StateBoundariesTest::aNinthSeriesIsRefused);
        check.sentence("2: tested in this order", StateBoundariesTest::seriesIsTestedInOrder);
        check.sentence("2: refused, nothing is made", StateBoundariesTest::refusedSeriesLeaveAllAsItWas);
        check.sentence("2: a series that is made is empty", StateBoundariesTest::aNewSeriesIsEmpty);
    }

    private static void aboutAppend() {
        check.sentence("Terms: a time from 0 to 999", StateBoundariesTest::leastAndGreatestTime);
        check.sentence("Terms: a value from -1000 to 1000", StateBoundariesTest::leastAndGreatestValue);
        check.sentence("Terms: up to 32 samples", StateBoundariesTest::samplesUpTo32);
        check.sentence("3: there is no series s: BAD", StateBoundariesTest::appendToNoSeriesIsBad);
        check.sentence("3: time outside 0..999: BAD", StateBoundariesTest::appendAtATimeOutsideIsBad);
        check.sentence("3: value outside -1000..1000: BAD", StateBoundariesTest::appendOfAValueOutsideIsBad);
        check.sentence("3: time is not above the greatest time that a sample of s ever had: OLD",
            StateBoundariesTest::appendAtATimeNotAboveIsOld);
        check.sentence("3: a sample of s", StateBoundariesTest::otherSeriesMakeNoTimeOld);
        check.sentence("3: also of samples that are gone", StateBoundariesTest::timesOfGoneSamplesStayOld);
        check.sentence("3: in the present state", StateBoundariesTest::timesLostInACrashAreNotOld);
        check.sentence("3: 32 samples are there: FULL", StateBoundariesTest::a33rdSampleIsRefused);
        check.sentence("3: 32 samples are there", StateBoundariesTest::goneSamplesMakeRoom);
        check.sentence("3: BAD is tested before OLD", StateBoundariesTest::badBeforeOld);
        check.sentence("3: BAD is tested before FULL", StateBoundariesTest::badBeforeFull);
        check.sentence("3: OLD is tested before FULL", StateBoundariesTest::oldBeforeFull);
        check.sentence("3: refused, nothing is added", StateBoundariesTest::refusedAppendsLeaveAllAsItWas);
        check.sentence("3: else answers the number of samples of s", StateBoundariesTest::appendAnswersTheNumberOfS);
    }

    private static void aboutExpire() {
        check.sentence("4: whose time is below a time", StateBoundariesTest::expireKeepsTheTimeItself);
        check.sentence("4: of all series", StateBoundariesTest::expireReachesTheFirstAndTheLastSeries);
        check.sentence("4: any int", StateBoundariesTest::expireTakesAnyInt);
        check.sentence("4: answers how many: none of none", StateBoundariesTest::expireOfNothing);
        check.sentence("4: answers how many: all of a full store", StateBoundariesTest::expireOfAFullStore);
        check.sentence("4: takes out samples, not series", StateBoundariesTest::expireKeepsTheSeries);
        check.sentence("4: nothing below, nothing done", StateBoundariesTest::expireOfNoneLeavesAllAsItWas);
    }

    private static void aboutSyncAndCrash() {
        check.sentence("5: the safe state becomes what the present one is: empty",
            StateBoundariesTest::syncOfAnEmptyState);
        check.sentence("5: the safe state becomes what the present one is: full",
            StateBoundariesTest::syncOfAFullState);
        check.sentence("5: the safe state becomes less, as the present one",
            StateBoundariesTest::syncOfLessThanWasSafe);
        check.sentence("5: the present state stays", StateBoundariesTest::syncLeavesThePresentState);
        check.sentence("Terms: what is done shows in the present state", StateBoundariesTest::doingLeavesTheSafeState);
        check.sentence("6: the present state becomes what the safe one is", StateBoundariesTest::crashBringsAllBack);
        check.sentence("6: with the series of the safe one alone", StateBoundariesTest::crashForgetsNewSeries);
        check.sentence("6: the safe state stays", StateBoundariesTest::crashLeavesTheSafeState);
        check.sentence("6: how many samples fewer", StateBoundariesTest::crashAnswersHowManyFewer);
        check.sentence("6: below 0 if there are more", StateBoundariesTest::crashAnswersBelowZero);
        check.sentence("6: as many as before: 0", StateBoundariesTest::crashAnswersZero);
    }

    private static void aboutLevel() {
        check.sentence("16: k outside 0..2: refused, answers false", StateBoundariesTest::levelsOutsideAreRefused);
        check.sentence("16: else true", StateBoundariesTest::levelsInsideAreTaken);
        check.sentence("16: it shows in no answer", StateBoundariesTest::levelsShowInNoAnswer);
    }

    // The object

    private static void the512thCallAnswers() {
        SampleStore x = new SampleStore();
        check.due("call 1", x.series(63), 0);
        for (int i = 0; i < 170; i++) {
            check.due("append " + i, x.append(0, i * 5, i), i < 20 ? i + 1 : 21);
            check.due("expire " + i, x.expire(i * 5 - 95), i < 20 ? 0 : 1);
            check.due("at " + i, x.at(0, i * 5 + 49), i);
        }
        check.due("call 512", x.append(0, 999, 1000), 21);
    }

    private static void bothStatesAreEmptyAtFirst() {
        SampleStore x = new SampleStore();
        check.due("crash of a new object", x.crash(), 0);
        check.due("no series after it", x.matching(ALL), 0);
        x.series(5);
        x.append(0, 7, 7);
        check.due("crash without a sync", x.crash(), 1);
        check.due("no series after that", x.matching(ALL), 0);
        check.due("no length", x.length(0), BAD);
        check.due("no sample", x.count(ALL, MIN, MAX), 0);
        check.due("numbers begin anew", x.series(5), 0);
        check.due("times begin anew", x.append(0, 0, 7), 1);
    }

    private static void aNewObjectIsEmpty() {
        SampleStore x = new SampleStore();
        check.due("count", x.count(ALL, MIN, MAX), 0);
        check.due("sum", x.sum(ALL, MIN, MAX), 0);
        check.due("least", x.least(ALL, MIN, MAX), NONE);
        check.due("most", x.most(ALL, MIN, MAX), NONE);
        check.due("growth", x.growth(ALL, MIN, MAX), 0);
        check.due("ranked", x.ranked(ALL, MIN, MAX, 0), NONE);
        check.due("matching", x.matching(ALL), 0);
        for (int s = 0; s < 8; s++) {
            check.due("length " + s, x.length(s), BAD);
            check.due("at " + s, x.at(s, 0), BAD);
            check.due("append " + s, x.append(s, 0, 0), BAD);
        }
        check.due("expire", x.expire(MAX), 0);
    }

    private static void aNewObjectSharesNothing() {
        SampleStore x = Stores.fullStore();
        x.sync();
        SampleStore y = new SampleStore();
        check.due("count", y.count(ALL, MIN, MAX), 0);
        check.due("crash", y.crash(), 0);
        check.due("series", y.series(0), 0);
        check.due("append", y.append(0, 0, 9), 1);
        check.due("the other one keeps its own", x.at(0, 0), Stores.valueInFull(0, 0));
    }

    // Promise 2

    private static SampleStore eightSeries() {
        SampleStore x = new SampleStore();
        for (int s = 0; s < 8; s++) {
            x.series(10 + s);
        }
        return x;
    }

    private static void seriesAreNumberedFromZeroToSeven() {
        SampleStore x = new SampleStore();
        for (int s = 0; s < 8; s++) {
            check.due("series " + s, x.series(63 - s), s);
        }
        check.due("the first one made is 0", x.matching(Stores.matcher(3, 3, 3)), 1);
        check.due("the last one made is 7", x.matching(Stores.matcher(0, 2, 3)), 1 << 7);
    }

    private static void eachOfThe64LabelsCanBeMade() {
        for (int labels = 0; labels < 64; labels++) {
            SampleStore x = new SampleStore();
            check.due("series(" + labels + ")", x.series(labels), 0);
            int exact = Stores.matcher(labels & 3, labels >> 2 & 3, labels >> 4);
            check.due("matched by its own labels " + labels, x.matching(exact), 1);
            check.due("there " + labels, x.series(labels), THERE);
        }
    }

    private static void labelsThatDifferInOneAreOthers() {
        SampleStore x = new SampleStore();
        check.due("1 1 1", x.series(Stores.labels(1, 1, 1)), 0);
        check.due("other label 0", x.series(Stores.labels(2, 1, 1)), 1);
        check.due("other label 1", x.series(Stores.labels(1, 2, 1)), 2);
        check.due("other label 2", x.series(Stores.labels(1, 1, 2)), 3);
        check.due("the same three", x.series(Stores.labels(1, 1, 1)), THERE);
    }

    private static void labelsWrapFromOneToTheNext() {
        SampleStore x = new SampleStore();
        int[] labels = {0, 3, 4, 15, 16, 63};
        int[] exact = {
            Stores.matcher(0, 0, 0), Stores.matcher(3, 0, 0), Stores.matcher(0, 1, 0),
            Stores.matcher(3, 3, 0), Stores.matcher(0, 0, 1), Stores.matcher(3, 3, 3)};
        for (int s = 0; s < labels.length; s++) {
            x.series(labels[s]);
        }
        for (int s = 0; s < labels.length; s++) {
            check.due("labels " + labels[s], x.matching(exact[s]), 1 << s);
        }
    }

    private static void labelsOutsideAreBad() {
        SampleStore x = new SampleStore();
        for (int labels : new int[] {-1, 64, -64, 65, 128, MIN, MAX}) {
            check.due("series(" + labels + ")", x.series(labels), BAD);
        }
        check.due("series(0)", x.series(0), 0);
        check.due("series(63)", x.series(63), 1);
    }

    private static void labelsThatAreThere() {
        SampleStore x = new SampleStore();
        check.due("none there yet", x.series(0), 0);
        check.due("the only one", x.series(0), THERE);
        x.series(63);
        x.series(31);
        check.due("the first of three", x.series(0), THERE);
        check.due("the middle one", x.series(63), THERE);
        check.due("the last one", x.series(31), THERE);
        x.crash();
        check.due("no more there", x.series(31), 0);
    }

    private static void aNinthSeriesIsRefused() {
        SampleStore x = eightSeries();
        check.due("a ninth", x.series(18), FULL);
        check.due("a ninth again", x.series(0), FULL);
        check.due("8 are there", x.matching(ALL), 255);
        x.expire(MAX);
        check.due("8 empty ones are 8", x.series(18), FULL);
        x.crash();
        check.due("none is there", x.series(18), 0);
    }

    private static void seriesIsTestedInOrder() {
        SampleStore x = eightSeries();
        check.due("BAD before FULL, above", x.series(64), BAD);
        check.due("BAD before FULL, below", x.series(-1), BAD);
        check.due("THERE before FULL, first", x.series(10), THERE);
        check.due("THERE before FULL, last", x.series(17), THERE);
    }

    private static void refusedSeriesLeaveAllAsItWas() {
        for (int labels : new int[] {-1, 64, MIN, MAX, 0}) {
            check.due("series(" + labels + ")", Stores.leavesAllAsItWas(x -> x.series(labels)), true);
        }
        check.due("a ninth", Stores.leavesFullAsItWas(x -> x.series(1)), true);
    }

    private static void aNewSeriesIsEmpty() {
        SampleStore x = Stores.fullStore();
        x.crash();
        check.due("made where a full one was", x.series(9), 0);
        check.due("length", x.length(0), 0);
        check.due("count", x.count(ALL, MIN, MAX), 0);
        check.due("at", x.at(0, 93), NONE);
        check.due("expire", x.expire(MAX), 0);
        check.due("no time is old", x.append(0, 0, 1), 1);
    }

    // Promise 3

    private static SampleStore fullSeries() {
        SampleStore x = Stores.oneSeries();
        for (int i = 0; i < 32; i++) {
            x.append(0, i + 10, i);
        }
        return x;
    }

    private static void leastAndGreatestTime() {
        SampleStore x = Stores.oneSeries();
        check.due("time 0", x.append(0, 0, 1), 1);
        check.due("time 1", x.append(0, 1, 2), 2);
        check.due("time 998", x.append(0, 998, 3), 3);
        check.due("time 999", x.append(0, 999, 4), 4);
        check.due("at 0", x.at(0, 0), 1);
        check.due("at 1", x.at(0, 1), 2);
        check.due("at 998", x.at(0, 998), 3);
        check.due("at 999", x.at(0, 999), 4);
    }

    private static void leastAndGreatestValue() {
        SampleStore x = Stores.oneSeries();
        check.due("value -1000", x.append(0, 10, -1000), 1);
        check.due("value 1000", x.append(0, 20, 1000), 2);
        check.due("value 0", x.append(0, 30, 0), 3);
        check.due("at 10", x.at(0, 10), -1000);
        check.due("at 20", x.at(0, 20), 1000);
        check.due("at 30", x.at(0, 30), 0);
    }

    private static void samplesUpTo32() {
        SampleStore x = Stores.oneSeries();
        for (int i = 0; i < 32; i++) {
            check.due("sample " + i, x.append(0, i, 100 + i), i + 1);
        }
        for (int i = 0; i < 32; i++) {
            check.due("at " + i, x.at(0, i), 100 + i);
        }
    }

    private static void appendToNoSeriesIsBad() {
        SampleStore x = new SampleStore();
        check.due("no series at all", x.append(0, 5, 5), BAD);
        x.series(0);
        check.due("the next one", x.append(1, 5, 5), BAD);
        check.due("the last one that may be", x.append(7, 5, 5), BAD);
        SampleStore all = eightSeries();
        for (int s : Stores.NEVER_SERIES) {
            check.due("series " + s + " of one", x.append(s, 5, 5), BAD);
            check.due("series " + s + " of 8", all.append(s, 5, 5), BAD);
        }
        check.due("series 0", x.append(0, 5, 5), 1);
        check.due("series 7", all.append(7, 5, 5), 1);
    }

    private static void appendAtATimeOutsideIsBad() {
        SampleStore x = Stores.oneSeries();
        for (int time : Stores.OUTSIDE_TIMES) {
            check.due("time " + time, x.append(0, time, 5), BAD);
        }
        check.due("length", x.length(0), 0);
    }

    private static void appendOfAValueOutsideIsBad() {
        SampleStore x = Stores.oneSeries();
        for (int value : new int[] {-1001, 1001, -10000, 10000, MIN, MAX}) {
            check.due("value " + value, x.append(0, 5, value), BAD);
        }
        check.due("length", x.length(0), 0);
    }

    private static void appendAtATimeNotAboveIsOld() {
        SampleStore x = Stores.oneSeries(0, 1);
        check.due("time 0 again", x.append(0, 0, 2), OLD);
        x.append(0, 10, 1);
        check.due("the same time", x.append(0, 10, 2), OLD);
        check.due("one less", x.append(0, 9, 2), OLD);
        check.due("the least", x.append(0, 0, 2), OLD);
        check.due("one more", x.append(0, 11, 2), 3);
        x.append(0, 999, 3);
        check.due("the greatest again", x.append(0, 999, 2), OLD);
        check.due("below the greatest", x.append(0, 998, 2), OLD);
    }

    private static void otherSeriesMakeNoTimeOld() {
        SampleStore x = Stores.oneSeries(999, 1);
        x.series(1);
        check.due("series 1 begins at 0", x.append(1, 0, 1), 1);
        check.due("series 0 has had 999", x.append(0, 999, 1), OLD);
        check.due("series 1 goes on", x.append(1, 1, 1), 2);
    }

    private static void timesOfGoneSamplesStayOld() {
        SampleStore x = Stores.oneSeries(10, 1, 20, 2);
        x.expire(MAX);
        check.due("the last one's time", x.append(0, 20, 3), OLD);
        check.due("below it", x.append(0, 19, 3), OLD);
        check.due("the first one's time", x.append(0, 10, 3), OLD);
        check.due("above it", x.append(0, 21, 3), 1);
        SampleStore end = Stores.oneSeries(999, 1);
        end.expire(1000);
        check.due("no time is above 999", end.append(0, 999, 3), OLD);
    }

    private static void timesLostInACrashAreNotOld() {
        SampleStore x = Stores.oneSeries(10, 1);
        x.sync();
        x.append(0, 999, 2);
        x.crash();
        check.due("the safe time", x.append(0, 10, 3), OLD);
        check.due("above the safe time", x.append(0, 11, 3), 2);
        x.expire(MAX);
        x.sync();
        x.append(0, 999, 4);
        x.crash();
        check.due("the time of a sample gone before the sync", x.append(0, 11, 5), OLD);
        check.due("above it", x.append(0, 12, 5), 1);
        x.crash();
        check.due("the same after a second crash", x.append(0, 11, 5), OLD);
        check.due("above it again", x.append(0, 12, 5), 1);
    }

    private static void a33rdSampleIsRefused() {
        SampleStore x = fullSeries();
        check.due("a 33rd", x.append(0, 42, 0), FULL);
        check.due("a 33rd, much later", x.append(0, 999, 0), FULL);
        check.due("length", x.length(0), 32);
        x.series(1);
        check.due("another series", x.append(1, 0, 0), 1);
    }

    private static void goneSamplesMakeRoom() {
        SampleStore x = fullSeries();
        x.append(0, 999, 0);
        x.expire(11);
        check.due("room for one, and the refused time was never had", x.append(0, 42, 500), 32);
        check.due("no room for two", x.append(0, 43, 0), FULL);
        check.due("the oldest", x.at(0, 11), 1);
        check.due("the newest", x.at(0, 42), 500);
        check.due("all", x.sum(ALL, 0, 999), 31 * 32 / 2 + 500);
    }

    private static void badBeforeOld() {
        SampleStore x = Stores.oneSeries(10, 1);
        check.due("value above", x.append(0, 10, 1001), BAD);
        check.due("value below", x.append(0, 5, -1001), BAD);
        check.due("time below", x.append(0, -1, 0), BAD);
        check.due("no series", x.append(1, 5, 0), BAD);
    }

    private static void badBeforeFull() {
        SampleStore x = fullSeries();
        check.due("time above", x.append(0, 1000, 0), BAD);
        check.due("value above", x.append(0, 42, 1001), BAD);
        check.due("value below", x.append(0, 42, -1001), BAD);
        check.due("no series", x.append(1, 42, 0), BAD);
    }

    private static void oldBeforeFull() {
        SampleStore x = fullSeries();
        check.due("the newest time", x.append(0, 41, 0), OLD);
        check.due("time 0", x.append(0, 0, 0), OLD);
    }

    private static void refusedAppendsLeaveAllAsItWas() {
        int[][] refused = {
            {-1, 95, 1}, {8, 95, 1}, {MIN, 95, 1}, {MAX, 95, 1},
            {0, -1, 1}, {0, 1000, 1}, {0, MIN, 1}, {0, MAX, 1},
            {0, 95, -1001}, {0, 95, 1001}, {0, 95, MIN}, {0, 95, MAX},
            {0, 93, 1}, {0, 61, 1}, {0, 0, 1}, {1, 93, 1}};
        for (int[] call : refused) {
            check.due("append(" + call[0] + ", " + call[1] + ", " + call[2] + ")",
                Stores.leavesAllAsItWas(x -> x.append(call[0], call[1], call[2])), true);
        }
        check.due("a 33rd of series 0", Stores.leavesFullAsItWas(x -> x.append(0, 999, 1)), true);
        check.due("a 33rd of series 7", Stores.leavesFullAsItWas(x -> x.append(7, 999, 1)), true);
    }

    private static void appendAnswersTheNumberOfS() {
        SampleStore x = Stores.oneSeries(1, 1, 2, 2, 3, 3);
        x.series(1);
        check.due("first of series 1", x.append(1, 1, 1), 1);
        check.due("fourth of series 0", x.append(0, 4, 4), 4);
        x.expire(4);
        check.due("after three are gone", x.append(0, 5, 5), 2);
        check.due("after all are gone", x.append(1, 5, 5), 1);
    }

    // Promise 4

    private static void expireKeepsTheTimeItself() {
        SampleStore x = Stores.oneSeries(10, 1, 20, 2, 30, 4);
        check.due("below the first", x.expire(10), 0);
        check.due("one more than the first", x.expire(11), 1);
        check.due("below the second", x.expire(20), 0);
        check.due("what is left", x.sum(ALL, MIN, MAX), 6);
        check.due("one more than the second", x.expire(21), 1);
        check.due("the third", x.at(0, 30), 4);
        check.due("between", x.expire(30), 0);
        check.due("the last", x.expire(31), 1);
        check.due("length", x.length(0), 0);
    }

    private static void expireReachesTheFirstAndTheLastSeries() {
        SampleStore x = eightSeries();
        for (int s = 0; s < 8; s++) {
            Stores.appendAll(x, s, s, s, 100, 100 + s);
        }
        check.due("one of series 0 to 6", x.expire(7), 7);
        check.due("series 7 keeps both", x.length(7), 2);
        check.due("one of series 7", x.expire(8), 1);
        for (int s = 0; s < 8; s++) {
            check.due("length " + s, x.length(s), 1);
            check.due("at " + s, x.at(s, 100), 100 + s);
        }
        check.due("one of each", x.expire(101), 8);
    }

    private static void expireTakesAnyInt() {
        SampleStore x = Stores.oneSeries(0, 1, 999, 2);
        check.due("MIN", x.expire(MIN), 0);
        check.due("-1", x.expire(-1), 0);
        check.due("0", x.expire(0), 0);
        check.due("1", x.expire(1), 1);
        check.due("999", x.expire(999), 0);
        check.due("1000", x.expire(1000), 1);
        check.due("MAX after all", x.expire(MAX), 0);
        check.due("MAX", Stores.oneSeries(0, 1, 999, 2).expire(MAX), 2);
    }

    private static void expireOfNothing() {
        SampleStore x = new SampleStore();
        check.due("no series", x.expire(MAX), 0);
        x.series(0);
        check.due("no samples", x.expire(MAX), 0);
        x.append(0, 5, 5);
        x.expire(MAX);
        check.due("no samples any more", x.expire(MAX), 0);
    }

    private static void expireOfAFullStore() {
        check.due("all at once", Stores.fullStore().expire(94), 256);
        SampleStore x = Stores.fullStore();
        check.due("all but the newest", x.expire(93), 248);
        for (int s = 0; s < 8; s++) {
            check.due("the newest of " + s, x.at(s, 93), Stores.valueInFull(s, 31));
        }
        check.due("the rest", x.expire(MAX), 8);
    }

    private static void expireKeepsTheSeries() {
        SampleStore x = Stores.oneSeries(10, 1);
        x.expire(MAX);
        check.due("matching", x.matching(ALL), 1);
        check.due("series", x.series(0), THERE);
        check.due("length", x.length(0), 0);
        check.due("expire's own time is not had", x.append(0, 11, 1), 1);
    }

    private static void expireOfNoneLeavesAllAsItWas() {
        check.due("0", Stores.leavesAllAsItWas(x -> x.expire(0)), true);
        check.due("MIN", Stores.leavesAllAsItWas(x -> x.expire(MIN)), true);
    }

    // Promises 5 and 6

    private static void syncOfAnEmptyState() {
        SampleStore x = new SampleStore();
        x.sync();
        x.series(3);
        x.append(0, 1, 1);
        check.due("crash", x.crash(), 1);
        check.due("no series", x.matching(ALL), 0);
        check.due("no samples", x.count(ALL, MIN, MAX), 0);
    }

    private static void syncOfAFullState() {
        SampleStore x = Stores.fullStore();
        x.sync();
        x.expire(MAX);
        check.due("crash", x.crash(), -256);
        for (int s = 0; s < 8; s++) {
            check.due("length " + s, x.length(s), 32);
            check.due("first of " + s, x.at(s, 0), Stores.valueInFull(s, 0));
            check.due("last of " + s, x.at(s, 93), Stores.valueInFull(s, 31));
        }
        check.due("series", x.series(1), FULL);
        check.due("append", x.append(7, 94, 0), FULL);
    }

    private static void syncOfLessThanWasSafe() {
        SampleStore x = Stores.oneSeries(10, 1, 20, 2);
        x.sync();
        x.expire(20);
        x.sync();
        check.due("crash after the second sync", x.crash(), 0);
        check.due("what is there", x.sum(ALL, MIN, MAX), 2);
        x.expire(MAX);
        x.sync();
        check.due("crash after the third", x.crash(), 0);
        check.due("length", x.length(0), 0);
    }

    private static void syncLeavesThePresentState() {
        SampleStore x = Stores.smallOverSafe();
        int[] before = {x.matching(ALL), x.count(ALL, MIN, MAX), x.sum(ALL, MIN, MAX), x.length(0), x.length(2)};
        x.sync();
        x.sync();
        int[] after = {x.matching(ALL), x.count(ALL, MIN, MAX), x.sum(ALL, MIN, MAX), x.length(0), x.length(2)};
        for (int i = 0; i < before.length; i++) {
            check.due("answer " + i + " after sync", after[i], before[i]);
        }
        check.due("the newest time stays too", x.append(0, 93, 0), OLD);
        check.due("the next one", x.append(0, 94, 0), 4);
    }

    private static void doingLeavesTheSafeState() {
        SampleStore x = Stores.oneSeries(10, 1, 20, 2);
        x.sync();
        x.append(0, 30, 4);
        check.due("an append shows", x.sum(ALL, MIN, MAX), 7);
        x.expire(20);
        check.due("an expire shows", x.sum(ALL, MIN, MAX), 6);
        x.series(1);
        check.due("a series shows", x.matching(ALL), 3);
        x.crash();
        check.due("none of them in the safe state", x.sum(ALL, MIN, MAX), 3);
        check.due("nor the series", x.matching(ALL), 1);
    }

    private static void crashBringsAllBack() {
        SampleStore x = Stores.oneSeries(10, 1, 20, 2);
        x.series(Stores.labels(1, 2, 3));
        Stores.appendAll(x, 1, 15, 9);
        x.sync();
        x.expire(MAX);
        Stores.appendAll(x, 0, 30, 100, 40, 200);
        Stores.appendAll(x, 1, 16, 300);
        x.crash();
        check.due("first of series 0", x.at(0, 19), 1);
        check.due("second of series 0", x.at(0, 20), 2);
        check.due("none later", x.count(ALL, 21, MAX), 0);
        check.due("series 1", x.at(1, 15), 9);
        check.due("its labels", x.matching(Stores.matcher(1, 2, 3)), 2);
        check.due("its newest time", x.append(1, 15, 0), OLD);
        check.due("a time that was lost", x.append(1, 16, 0), 2);
    }

    private static void crashForgetsNewSeries() {
        SampleStore x = Stores.oneSeries(10, 1);
        x.sync();
        x.series(7);
        Stores.appendAll(x, 1, 900, 50, 901, 60);
        check.due("its samples are fewer", x.crash(), 2);
        check.due("length", x.length(1), BAD);
        check.due("at", x.at(1, 901), BAD);
        check.due("append", x.append(1, 902, 0), BAD);
        check.due("count", x.count(ALL, MIN, MAX), 1);
        check.due("matching", x.matching(ALL), 1);
        check.due("its number is another's", x.series(9), 1);
        check.due("its labels are free", x.series(7), 2);
        check.due("its samples are not the other's", x.length(1), 0);
        check.due("nor its newest time", x.append(1, 0, 5), 1);
    }

    private static void crashLeavesTheSafeState() {
        SampleStore x = Stores.oneSeries(10, 1);
        x.sync();
        x.append(0, 20, 2);
        check.due("first crash", x.crash(), 1);
        check.due("second crash at once", x.crash(), 0);
        x.append(0, 30, 2);
        x.append(0, 40, 2);
        x.series(1);
        check.due("third crash", x.crash(), 2);
        x.expire(MAX);
        check.due("fourth crash", x.crash(), -1);
        check.due("the sample", x.at(0, 10), 1);
        check.due("the series", x.matching(ALL), 1);
    }

    private static void crashAnswersHowManyFewer() {
        check.due("all of a full store", Stores.fullStore().crash(), 256);
        check.due("one", Stores.oneSeries(10, 1).crash(), 1);
        SampleStore x = Stores.oneSeries(10, 1);
        x.sync();
        Stores.appendAll(x, 0, 20, 2, 30, 3, 40, 4);
        x.expire(20);
        check.due("three new, one gone", x.crash(), 2);
    }

    private static void crashAnswersBelowZero() {
        SampleStore x = Stores.oneSeries(10, 1, 20, 2, 30, 3);
        x.sync();
        x.expire(11);
        check.due("one more", x.crash(), -1);
        x.expire(MAX);
        check.due("three more", x.crash(), -3);
        x.expire(21);
        x.append(0, 40, 4);
        check.due("two gone, one new", x.crash(), -1);
    }

    private static void crashAnswersZero() {
        SampleStore x = Stores.oneSeries(10, 1, 20, 2);
        x.sync();
        check.due("nothing done", x.crash(), 0);
        x.expire(20);
        x.append(0, 30, 4);
        check.due("one gone, one new", x.crash(), 0);
        check.due("yet the old ones are back", x.sum(ALL, MIN, MAX), 3);
        x.series(1);
        check.due("a series without samples", x.crash(), 0);
        check.due("is gone", x.matching(ALL), 1);
    }

    // Promise 16

    private static void levelsOutsideAreRefused() {
        SampleStore x = new SampleStore();
        for (int k : new int[] {-1, 3, -2, 4, MIN, MAX}) {
            check.due("level(" + k + ")", x.level(k), false);
            check.due("level(" + k + ") leaves all", Stores.leavesAllAsItWas(y -> y.level(k)), true);
        }
    }

    private static void levelsInsideAreTaken() {
        SampleStore x = new SampleStore();
        for (int k : new int[] {0, 1, 2, 2, 1, 0, 0}) {
            check.due("level(" + k + ")", x.level(k), true);
        }
        x.level(3);
        check.due("after a refused one", x.level(2), true);
    }

    private static void levelsShowInNoAnswer() {
        for (int k = 0; k <= 2; k++) {
            int level = k;
            check.due("level " + k + " after the fact", Stores.leavesAllAsItWas(x -> x.level(level)), true);
            SampleStore x = new SampleStore();
            x.level(k);
            check.due("series at level " + k, x.series(9), 0);
            check.due("append at level " + k, x.append(0, 10, 5), 1);
            x.sync();
            check.due("second append at level " + k, x.append(0, 20, 7), 2);
            check.due("sum at level " + k, x.sum(ALL, MIN, MAX), 12);
            check.due("expire at level " + k, x.expire(20), 1);
            x.level(2 - k);
            check.due("crash at another level than " + k, x.crash(), 0);
            check.due("what was safe at level " + k, x.at(0, 59), 5);
            check.due("what was lost at level " + k, x.count(ALL, 11, MAX), 0);
        }
    }
}
