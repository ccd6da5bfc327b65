/** For each promise of the document: ordinary inputs, the edges it names, and wrong inputs. */
public final class PromisesTest {
    private static final int MIN = Integer.MIN_VALUE;
    private static final int MAX = Integer.MAX_VALUE;
    private static final int ALL = matcher(4, 4, 4);
    private static final Check check = new Check();

    public static void main(String[] args) {
        newObject();
        newObjectsAreApart();
        seriesNumbersAndRefusals();
        seriesTestsInOrder();
        appendAnswersTheLength();
        appendRefusesBadArguments();
        appendRefusesOldTimes();
        appendTestsInOrder();
        appendRefusesWhenFull();
        expireTakesOutWhatIsBelow();
        expireTakesAnyInt();
        expireOnAFullStore();
        expireKeepsTheSeriesAndTheNewestTime();
        syncKeepsWhatIsPresent();
        crashBringsTheSafeStateBack();
        crashBringsTheNewestTimeBack();
        crashAnswersTheDifference();
        crashForgetsSeriesMadeSince();
        crashOfAFullStore();
        countTakesTheStretch();
        sumOfTheSamples();
        leastAndMost();
        growthOfEachSeries();
        growthOverWhatTheQuestionTakes();
        atLooksBackLessThanFifty();
        atRefusals();
        rankedInAscendingOrder();
        rankedAcrossAFullStore();
        matchingAsBits();
        matchingEachDigit();
        lengthOfSeries();
        levelShowsInNoAnswer();
        check.end();
    }

    private static int matcher(int digit0, int digit1, int digit2) {
        return digit0 + 9 * digit1 + 81 * digit2;
    }

    private static int labels(int label0, int label1, int label2) {
        return label0 + 4 * label1 + 16 * label2;
    }

    /** A store with one series that has these samples, told as time, value, time, value. */
    private static SampleStore oneSeries(int... samples) {
        SampleStore x = new SampleStore();
        x.series(0);
        appendAll(x, 0, samples);
        return x;
    }

    private static void appendAll(SampleStore x, int s, int... samples) {
        for (int i = 0; i < samples.length; i += 2) {
            x.append(s, samples[i], samples[i + 1]);
        }
    }

    /** A store with 8 series of 32 samples each, all values apart: (s * 32 + i) * 37 % 257 - 100. */
    private static SampleStore fullStore() {
        SampleStore x = new SampleStore();
        for (int s = 0; s < 8; s++) {
            x.series(s * 9);
            for (int i = 0; i < 32; i++) {
                x.append(s, i * 3, (s * 32 + i) * 37 % 257 - 100);
            }
        }
        return x;
    }

    // Promise 1

    private static void newObject() {
        SampleStore x = new SampleStore();
        check.due("1: count", x.count(ALL, MIN, MAX), 0);
        check.due("1: sum", x.sum(ALL, MIN, MAX), 0);
        check.due("1: least", x.least(ALL, MIN, MAX), SampleStore.NONE);
        check.due("1: most", x.most(ALL, MIN, MAX), SampleStore.NONE);
        check.due("1: growth", x.growth(ALL, MIN, MAX), 0);
        check.due("1: ranked", x.ranked(ALL, MIN, MAX, 0), SampleStore.NONE);
        check.due("1: matching", x.matching(ALL), 0);
        check.due("1: length", x.length(0), SampleStore.BAD);
        check.due("1: at", x.at(0, 0), SampleStore.BAD);
        check.due("1: append", x.append(0, 0, 0), SampleStore.BAD);
        check.due("1: expire", x.expire(MAX), 0);
        check.due("1: crash", x.crash(), 0);
        x.sync();
        check.due("1: crash after sync", x.crash(), 0);
        check.due("1: first series", x.series(0), 0);
    }

    private static void newObjectsAreApart() {
        SampleStore x = oneSeries(1, 1);
        SampleStore y = new SampleStore();
        x.sync();
        check.due("1: other object's count", y.count(ALL, MIN, MAX), 0);
        check.due("1: other object's crash", y.crash(), 0);
        check.due("1: other object's series", y.series(0), 0);
    }

    // Promise 2

    private static void seriesNumbersAndRefusals() {
        SampleStore x = new SampleStore();
        check.due("2: series(-1)", x.series(-1), SampleStore.BAD);
        check.due("2: series(64)", x.series(64), SampleStore.BAD);
        check.due("2: series(MIN)", x.series(MIN), SampleStore.BAD);
        check.due("2: series(MAX)", x.series(MAX), SampleStore.BAD);
        check.due("2: series(63)", x.series(63), 0);
        check.due("2: series(0)", x.series(0), 1);
        check.due("2: series(63) again", x.series(63), SampleStore.THERE);
        check.due("2: series(0) again", x.series(0), SampleStore.THERE);
        check.due("2: same label 0 alone", x.series(labels(3, 0, 0)), 2);
        check.due("2: same label 1 alone", x.series(labels(0, 3, 0)), 3);
        check.due("2: same label 2 alone", x.series(labels(0, 0, 3)), 4);
        check.due("2: refused ones made nothing", x.matching(ALL), 0b11111);
        check.due("2: a new series has no samples", x.length(4), 0);
    }

    private static void seriesTestsInOrder() {
        SampleStore x = new SampleStore();
        for (int s = 0; s < 8; s++) {
            check.due("2: series " + s, x.series(10 + s), s);
        }
        check.due("2: bad before full", x.series(64), SampleStore.BAD);
        check.due("2: bad before full, below", x.series(-1), SampleStore.BAD);
        check.due("2: there before full", x.series(17), SampleStore.THERE);
        check.due("2: first one is there", x.series(10), SampleStore.THERE);
        check.due("2: full", x.series(18), SampleStore.FULL);
        check.due("2: full leaves 8", x.matching(ALL), 255);
    }

    // Promise 3

    private static void appendAnswersTheLength() {
        SampleStore x = new SampleStore();
        x.series(0);
        x.series(1);
        check.due("3: first", x.append(0, 0, -1000), 1);
        check.due("3: second", x.append(0, 999, 1000), 2);
        check.due("3: other series", x.append(1, 500, 7), 1);
        check.due("3: at 0", x.at(0, 0), -1000);
        check.due("3: at 999", x.at(0, 999), 1000);
        check.due("3: at other", x.at(1, 500), 7);
    }

    private static void appendRefusesBadArguments() {
        SampleStore x = oneSeries();
        check.due("3: series -1", x.append(-1, 5, 5), SampleStore.BAD);
        check.due("3: series 1", x.append(1, 5, 5), SampleStore.BAD);
        check.due("3: series 8", x.append(8, 5, 5), SampleStore.BAD);
        check.due("3: series MIN", x.append(MIN, 5, 5), SampleStore.BAD);
        check.due("3: series MAX", x.append(MAX, 5, 5), SampleStore.BAD);
        check.due("3: time -1", x.append(0, -1, 5), SampleStore.BAD);
        check.due("3: time 1000", x.append(0, 1000, 5), SampleStore.BAD);
        check.due("3: time MIN", x.append(0, MIN, 5), SampleStore.BAD);
        check.due("3: time MAX", x.append(0, MAX, 5), SampleStore.BAD);
        check.due("3: value -1001", x.append(0, 5, -1001), SampleStore.BAD);
        check.due("3: value 1001", x.append(0, 5, 1001), SampleStore.BAD);
        check.due("3: value MIN", x.append(0, 5, MIN), SampleStore.BAD);
        check.due("3: value MAX", x.append(0, 5, MAX), SampleStore.BAD);
        check.due("3: nothing was added", x.length(0), 0);
        check.due("3: refused times don't count as had", x.append(0, 0, 0), 1);
    }

    private static void appendRefusesOldTimes() {
        SampleStore x = oneSeries(10, 1);
        check.due("3: same time", x.append(0, 10, 2), SampleStore.OLD);
        check.due("3: earlier time", x.append(0, 9, 2), SampleStore.OLD);
        check.due("3: nothing was added", x.length(0), 1);
        check.due("3: next time", x.append(0, 11, 2), 2);
        x.series(1);
        check.due("3: other series has its own newest", x.append(1, 0, 3), 1);
        x.expire(MAX);
        check.due("3: gone sample's time", x.append(0, 11, 2), SampleStore.OLD);
        check.due("3: after the gone sample", x.append(0, 12, 2), 1);
        check.due("3: gone sample's time, other series", x.append(1, 0, 2), SampleStore.OLD);
    }

    private static void appendTestsInOrder() {
        SampleStore x = oneSeries();
        for (int i = 0; i < 32; i++) {
            x.append(0, i, i);
        }
        check.due("3: bad before old", x.append(0, 5, 1001), SampleStore.BAD);
        check.due("3: bad before old, time", x.append(0, -1, 0), SampleStore.BAD);
        check.due("3: bad before full", x.append(0, 1000, 0), SampleStore.BAD);
        check.due("3: old before full", x.append(0, 31, 0), SampleStore.OLD);
        check.due("3: full", x.append(0, 32, 0), SampleStore.FULL);
    }

    private static void appendRefusesWhenFull() {
        SampleStore x = oneSeries();
        for (int i = 0; i < 32; i++) {
            check.due("3: sample " + i, x.append(0, i, i), i + 1);
        }
        check.due("3: a 33rd", x.append(0, 900, 0), SampleStore.FULL);
        check.due("3: full adds nothing", x.length(0), 32);
        x.expire(1);
        check.due("3: a refused time was never had", x.append(0, 32, 5), 32);
        check.due("3: full again", x.append(0, 33, 5), SampleStore.FULL);
        check.due("3: sum", x.sum(ALL, 0, 999), 31 * 32 / 2 + 5);
        x.series(1);
        check.due("3: another series isn't full", x.append(1, 0, 0), 1);
    }

    // Promise 4

    private static void expireTakesOutWhatIsBelow() {
        SampleStore x = oneSeries(10, 1, 20, 2, 30, 4);
        x.series(1);
        appendAll(x, 1, 5, 8, 20, 16, 25, 32);
        x.series(2);
        check.due("4: below 5", x.expire(5), 0);
        check.due("4: below 20", x.expire(20), 2);
        check.due("4: time 20 itself stays", x.sum(ALL, 0, 999), 2 + 4 + 16 + 32);
        check.due("4: again", x.expire(20), 0);
        check.due("4: below 21", x.expire(21), 2);
        check.due("4: length 0", x.length(0), 1);
        check.due("4: length 1", x.length(1), 1);
        check.due("4: at 0", x.at(0, 30), 4);
        check.due("4: at 1", x.at(1, 30), 32);
        check.due("4: below 26", x.expire(26), 1);
        check.due("4: below 31", x.expire(31), 1);
        check.due("4: count", x.count(ALL, MIN, MAX), 0);
    }

    private static void expireTakesAnyInt() {
        SampleStore x = oneSeries(0, 1, 999, 2);
        check.due("4: MIN", x.expire(MIN), 0);
        check.due("4: -1", x.expire(-1), 0);
        check.due("4: 0", x.expire(0), 0);
        check.due("4: 999", x.expire(999), 1);
        check.due("4: MAX", x.expire(MAX), 1);
        check.due("4: MAX again", x.expire(MAX), 0);
    }

    private static void expireOnAFullStore() {
        SampleStore x = fullStore();
        check.due("4: nothing of a full store", x.expire(0), 0);
        check.due("4: one of each", x.expire(1), 8);
        check.due("4: last series keeps its latest", x.at(7, 93), 255 * 37 % 257 - 100);
        check.due("4: room for one", x.append(7, 94, 5), 32);
        check.due("4: last of the last", x.at(7, 94), 5);
        check.due("4: the rest", x.expire(MAX), 249);
    }

    private static void expireKeepsTheSeriesAndTheNewestTime() {
        SampleStore x = oneSeries(10, 1);
        x.expire(1000);
        check.due("4: series stays", x.matching(ALL), 1);
        check.due("4: labels stay", x.series(0), SampleStore.THERE);
        check.due("4: length", x.length(0), 0);
        check.due("4: newest stays", x.append(0, 10, 1), SampleStore.OLD);
        check.due("4: expire's time isn't had", x.append(0, 11, 1), 1);
    }

    // Promises 5 and 6

    private static void syncKeepsWhatIsPresent() {
        SampleStore x = oneSeries(10, 1, 20, 2);
        x.sync();
        check.due("5: sync changes no answer", x.sum(ALL, 0, 999), 3);
        x.append(0, 30, 4);
        x.sync();
        x.append(0, 40, 8);
        check.due("5: crash after second sync", x.crash(), 1);
        check.due("5: newest sync counts", x.sum(ALL, 0, 999), 7);
        x.expire(30);
        x.sync();
        check.due("5: expired and synced", x.crash(), 0);
        check.due("5: stays expired", x.sum(ALL, 0, 999), 4);
    }

    private static void crashBringsTheSafeStateBack() {
        SampleStore x = oneSeries(10, 1, 20, 2);
        x.series(labels(1, 2, 3));
        appendAll(x, 1, 15, 9);
        x.sync();
        x.expire(1000);
        appendAll(x, 0, 30, 100, 40, 200);
        appendAll(x, 1, 16, 300);
        x.crash();
        check.due("6: times and values", x.at(0, 19), 1);
        check.due("6: times and values, later", x.at(0, 20), 2);
        check.due("6: other series", x.at(1, 15), 9);
        check.due("6: sum", x.sum(ALL, 0, 999), 12);
        check.due("6: labels", x.matching(matcher(1, 2, 3)), 2);
        x.append(0, 30, 5);
        check.due("6: a crash leaves the safe state", x.crash(), 1);
        check.due("6: sum after second crash", x.sum(ALL, 0, 999), 12);
    }

    private static void crashBringsTheNewestTimeBack() {
        SampleStore x = oneSeries(10, 1);
        x.sync();
        x.append(0, 500, 2);
        x.crash();
        check.due("6: lost time may come again", x.append(0, 11, 3), 2);
        x.expire(1000);
        x.sync();
        x.append(0, 900, 4);
        x.crash();
        check.due("6: gone sample's time is safe too", x.append(0, 11, 5), SampleStore.OLD);
        check.due("6: next time", x.append(0, 12, 5), 1);
    }

    private static void crashAnswersTheDifference() {
        SampleStore x = oneSeries(10, 1, 20, 2, 30, 3);
        check.due("6: all lost", x.crash(), 3);
        check.due("6: the series too", x.length(0), SampleStore.BAD);
        x.series(0);
        appendAll(x, 0, 10, 1, 20, 2, 30, 3);
        x.sync();
        x.expire(30);
        check.due("6: two more than before", x.crash(), -2);
        x.expire(20);
        x.append(0, 40, 4);
        check.due("6: one gone, one new", x.crash(), 0);
        check.due("6: length", x.length(0), 3);
    }

    private static void crashForgetsSeriesMadeSince() {
        SampleStore x = oneSeries(10, 1);
        x.sync();
        x.series(7);
        appendAll(x, 1, 900, 50, 901, 60);
        check.due("6: samples of a lost series", x.crash(), 2);
        check.due("6: lost series", x.length(1), SampleStore.BAD);
        check.due("6: not asked", x.count(ALL, 0, 999), 1);
        check.due("6: not matched", x.matching(ALL), 1);
        check.due("6: its labels are free", x.series(9), 1);
        check.due("6: the old ones too", x.series(7), 2);
        check.due("6: no samples of the lost one", x.length(1), 0);
        check.due("6: no newest time of the lost one", x.append(1, 0, 5), 1);
    }

    private static void crashOfAFullStore() {
        SampleStore x = fullStore();
        x.sync();
        check.due("6: nothing lost", x.crash(), 0);
        x.expire(MAX);
        check.due("6: all back", x.crash(), -256);
        check.due("6: last sample", x.at(7, 93), 255 * 37 % 257 - 100);
        check.due("6: a full new store", fullStore().crash(), 256);
    }

    // Promises 7 to 10

    private static void countTakesTheStretch() {
        SampleStore x = oneSeries(10, 1, 20, 2, 30, 3);
        x.series(labels(1, 0, 0));
        appendAll(x, 1, 20, 5);
        check.due("7: all", x.count(ALL, 0, 999), 4);
        check.due("7: both ends count", x.count(ALL, 10, 30), 4);
        check.due("7: from 11", x.count(ALL, 11, 30), 3);
        check.due("7: to 29", x.count(ALL, 10, 29), 3);
        check.due("7: one time", x.count(ALL, 20, 20), 2);
        check.due("7: between", x.count(ALL, 21, 29), 0);
        check.due("7: u below t", x.count(ALL, 30, 10), 0);
        check.due("7: widest", x.count(ALL, MIN, MAX), 4);
        check.due("7: widest the wrong way", x.count(ALL, MAX, MIN), 0);
        check.due("7: one series", x.count(matcher(1, 4, 4), 0, 999), 1);
        check.due("7: any but", x.count(matcher(6, 4, 4), 0, 999), 3);
        check.due("7: no series", x.count(matcher(2, 4, 4), 0, 999), 0);
        check.due("7: matcher -1", x.count(-1, 0, 999), SampleStore.BAD);
        check.due("7: matcher 728", x.count(728, 0, 999), 4);
        check.due("7: matcher 729", x.count(729, 0, 999), SampleStore.BAD);
        check.due("7: matcher MIN", x.count(MIN, 0, 999), SampleStore.BAD);
        check.due("7: matcher MAX", x.count(MAX, 0, 999), SampleStore.BAD);
    }

    private static void sumOfTheSamples() {
        SampleStore x = oneSeries(10, 100, 20, -300, 30, 7);
        x.series(labels(0, 1, 0));
        appendAll(x, 1, 20, 1000);
        check.due("8: all", x.sum(ALL, 0, 999), 807);
        check.due("8: stretch", x.sum(ALL, 11, 20), 700);
        check.due("8: one series", x.sum(matcher(4, 0, 4), 0, 999), -193);
        check.due("8: none", x.sum(ALL, 31, 999), 0);
        check.due("8: u below t", x.sum(ALL, 30, 10), 0);
        check.due("8: matcher -1", x.sum(-1, 0, 999), 0);
        check.due("8: matcher 729", x.sum(729, 0, 999), 0);
        check.due("8: matcher MIN", x.sum(MIN, 0, 999), 0);
        check.due("8: matcher MAX", x.sum(MAX, 0, 999), 0);
        check.due("8: full store", fullStore().sum(ALL, MIN, MAX), 256 * 257 / 2 - 220 - 256 * 100);
    }

    private static void leastAndMost() {
        SampleStore x = oneSeries(10, -5, 20, 8, 30, -1000);
        x.series(labels(0, 0, 2));
        appendAll(x, 1, 15, 6, 25, 1000, 35, 6);
        check.due("9: all", x.least(ALL, 0, 999), -1000);
        check.due("10: all", x.most(ALL, 0, 999), 1000);
        check.due("9: stretch", x.least(ALL, 10, 29), -5);
        check.due("10: stretch", x.most(ALL, 10, 24), 8);
        check.due("9: one series", x.least(matcher(4, 4, 2), 0, 999), 6);
        check.due("10: one series", x.most(matcher(4, 4, 0), 0, 999), 8);
        check.due("9: second of two", x.least(ALL, 10, 15), -5);
        check.due("10: second of two", x.most(ALL, 10, 15), 6);
        check.due("9: falling", oneSeries(1, 4, 2, 3).least(ALL, 0, 999), 3);
        check.due("10: rising", oneSeries(1, 3, 2, 4).most(ALL, 0, 999), 4);
        check.due("9: full store", fullStore().least(ALL, 0, 999), -100);
        check.due("10: full store", fullStore().most(ALL, 0, 999), 156);
        check.due("9: all below 0", x.least(ALL, 30, 30), -1000);
        check.due("10: all below 0", x.most(ALL, 30, 30), -1000);
        check.due("9: no sample", x.least(ALL, 36, 999), SampleStore.NONE);
        check.due("10: no sample", x.most(ALL, 36, 999), SampleStore.NONE);
        check.due("9: u below t", x.least(ALL, 30, 10), SampleStore.NONE);
        check.due("10: u below t", x.most(ALL, 30, 10), SampleStore.NONE);
        check.due("9: no series", x.least(matcher(4, 4, 1), 0, 999), SampleStore.NONE);
        check.due("10: no series", x.most(matcher(4, 4, 1), 0, 999), SampleStore.NONE);
        for (int bad : new int[] {-1, 729, MIN, MAX}) {
            check.due("9: matcher " + bad, x.least(bad, 0, 999), SampleStore.BAD);
            check.due("10: matcher " + bad, x.most(bad, 0, 999), SampleStore.BAD);
            check.due("9: bad before none " + bad, x.least(bad, 5, 0), SampleStore.BAD);
            check.due("10: bad before none " + bad, x.most(bad, 5, 0), SampleStore.BAD);
        }
    }

    // Promise 11

    private static void growthOfEachSeries() {
        check.due("11: up", oneSeries(1, 3, 2, 10).growth(ALL, 0, 999), 7);
        check.due("11: level", oneSeries(1, 3, 2, 3).growth(ALL, 0, 999), 0);
        check.due("11: level below 0", oneSeries(1, -3, 2, -3).growth(ALL, 0, 999), 0);
        check.due("11: down to above 0", oneSeries(1, 10, 2, 4).growth(ALL, 0, 999), 4);
        check.due("11: down to 1", oneSeries(1, 10, 2, 1).growth(ALL, 0, 999), 1);
        check.due("11: down to 0", oneSeries(1, 10, 2, 0).growth(ALL, 0, 999), 0);
        check.due("11: down to below 0", oneSeries(1, 10, 2, -4).growth(ALL, 0, 999), 0);
        check.due("11: up from below 0", oneSeries(1, -1000, 2, 1000).growth(ALL, 0, 999), 2000);
        check.due("11: up below 0", oneSeries(1, -10, 2, -4).growth(ALL, 0, 999), 6);
        check.due("11: one sample", oneSeries(1, 10).growth(ALL, 0, 999), 0);
        check.due("11: one down by 1", oneSeries(1, 10, 2, 9).growth(ALL, 0, 999), 9);
    }

    private static void growthOverWhatTheQuestionTakes() {
        SampleStore x = oneSeries(10, 1, 20, 5, 30, 2, 40, 9);
        x.series(1);
        appendAll(x, 1, 15, 100, 25, 150);
        x.series(2);
        appendAll(x, 2, 50, 900);
        check.due("11: all", x.growth(ALL, 0, 999), 4 + 2 + 7 + 50);
        check.due("11: stretch", x.growth(ALL, 20, 30), 2);
        check.due("11: samples outside don't start it", x.growth(ALL, 11, 24), 0);
        check.due("11: one series", x.growth(matcher(1, 4, 4), 0, 999), 50);
        check.due("11: any but", x.growth(matcher(6, 4, 4), 0, 999), 13);
        check.due("11: u below t", x.growth(ALL, 40, 10), 0);
        check.due("11: matcher -1", x.growth(-1, 0, 999), 0);
        check.due("11: matcher 729", x.growth(729, 0, 999), 0);
        check.due("11: matcher MIN", x.growth(MIN, 0, 999), 0);
        check.due("11: matcher MAX", x.growth(MAX, 0, 999), 0);
        x.expire(20);
        check.due("11: after expire", x.growth(ALL, 0, 999), 2 + 7);
    }

    // Promise 12

    private static void atLooksBackLessThanFifty() {
        SampleStore x = oneSeries(100, 1, 110, 2, 300, 3, 999, 4);
        check.due("12: before all", x.at(0, 99), SampleStore.NONE);
        check.due("12: on it", x.at(0, 100), 1);
        check.due("12: latest", x.at(0, 109), 1);
        check.due("12: next one", x.at(0, 110), 2);
        check.due("12: 49 later", x.at(0, 159), 2);
        check.due("12: 50 later", x.at(0, 160), SampleStore.NONE);
        check.due("12: just before the next", x.at(0, 299), SampleStore.NONE);
        check.due("12: 300", x.at(0, 300), 3);
        check.due("12: 998", x.at(0, 998), SampleStore.NONE);
        check.due("12: 999", x.at(0, 999), 4);
        check.due("12: time 0", x.at(0, 0), SampleStore.NONE);
        check.due("12: small times", oneSeries(0, 7).at(0, 49), 7);
        x.expire(105);
        check.due("12: gone sample", x.at(0, 109), SampleStore.NONE);
    }

    private static void atRefusals() {
        SampleStore x = oneSeries(0, 1, 999, 2);
        check.due("12: series -1", x.at(-1, 0), SampleStore.BAD);
        check.due("12: series 1", x.at(1, 0), SampleStore.BAD);
        check.due("12: series 8", x.at(8, 0), SampleStore.BAD);
        check.due("12: series MIN", x.at(MIN, 0), SampleStore.BAD);
        check.due("12: series MAX", x.at(MAX, 0), SampleStore.BAD);
        check.due("12: time -1", x.at(0, -1), SampleStore.BAD);
        check.due("12: time 1000", x.at(0, 1000), SampleStore.BAD);
        check.due("12: time MIN", x.at(0, MIN), SampleStore.BAD);
        check.due("12: time MAX", x.at(0, MAX), SampleStore.BAD);
        x.series(1);
        check.due("12: no samples", x.at(1, 0), SampleStore.NONE);
    }

    // Promise 13

    private static void rankedInAscendingOrder() {
        SampleStore x = oneSeries(10, 5, 20, -7, 30, 5, 40, 1000);
        x.series(1);
        appendAll(x, 1, 5, 0, 15, -1000, 25, 5);
        int[] ascending = {-1000, -7, 0, 5, 5, 5, 1000};
        for (int k = 0; k < ascending.length; k++) {
            check.due("13: number " + k, x.ranked(ALL, 0, 999, k), ascending[k]);
        }
        check.due("13: number 7 of 7", x.ranked(ALL, 0, 999, 7), SampleStore.NONE);
        check.due("13: number -1", x.ranked(ALL, 0, 999, -1), SampleStore.NONE);
        check.due("13: number MIN", x.ranked(ALL, 0, 999, MIN), SampleStore.NONE);
        check.due("13: number MAX", x.ranked(ALL, 0, 999, MAX), SampleStore.NONE);
        check.due("13: stretch", x.ranked(ALL, 10, 20, 1), -7);
        check.due("13: stretch, too far", x.ranked(ALL, 10, 20, 3), SampleStore.NONE);
        check.due("13: one series", x.ranked(matcher(0, 4, 4), 0, 999, 0), -7);
        check.due("13: u below t", x.ranked(ALL, 20, 10, 0), SampleStore.NONE);
        for (int bad : new int[] {-1, 729, MIN, MAX}) {
            check.due("13: matcher " + bad, x.ranked(bad, 0, 999, 0), SampleStore.BAD);
            check.due("13: bad before none " + bad, x.ranked(bad, 0, 999, -1), SampleStore.BAD);
        }
        check.due("13: samples keep their times", x.at(0, 20), -7);
        check.due("13: samples keep their order", x.growth(ALL, 0, 999), 12 + 995 + 1005);
    }

    private static void rankedAcrossAFullStore() {
        // 37 and 257 share no factor, so the values are all of -100..156 but the one that i = 256 would give.
        SampleStore x = fullStore();
        int left = 256 * 37 % 257 - 100;
        for (int k = 0; k < 256; k += 5) {
            int value = k - 100;
            check.due("13: full store, " + k, x.ranked(ALL, MIN, MAX, k), value < left ? value : value + 1);
        }
        check.due("13: full store, 255", x.ranked(ALL, MIN, MAX, 255), 156);
        check.due("13: full store, 256", x.ranked(ALL, MIN, MAX, 256), SampleStore.NONE);
    }

    // Promise 14

    private static void matchingAsBits() {
        SampleStore x = new SampleStore();
        x.series(labels(0, 1, 2));
        x.series(labels(3, 1, 0));
        x.series(labels(0, 0, 2));
        check.due("14: any", x.matching(ALL), 7);
        check.due("14: label 0", x.matching(matcher(0, 4, 4)), 0b101);
        check.due("14: label 1", x.matching(matcher(4, 1, 4)), 0b011);
        check.due("14: label 2", x.matching(matcher(4, 4, 0)), 0b010);
        check.due("14: all three hold", x.matching(matcher(0, 1, 2)), 0b001);
        check.due("14: two of three", x.matching(matcher(0, 1, 0)), 0);
        check.due("14: any but, label 0", x.matching(matcher(5, 4, 4)), 0b010);
        check.due("14: any but, label 1", x.matching(matcher(4, 6, 4)), 0b100);
        check.due("14: any but, label 2", x.matching(matcher(4, 4, 7)), 0b010);
        check.due("14: -1", x.matching(-1), SampleStore.BAD);
        check.due("14: 729", x.matching(729), SampleStore.BAD);
        check.due("14: MIN", x.matching(MIN), SampleStore.BAD);
        check.due("14: MAX", x.matching(MAX), SampleStore.BAD);
    }

    /** Every matcher against every set of labels; a matcher above 500 has an object of its own for the 512 calls. */
    private static void matchingEachDigit() {
        for (int low = 0; low < 64; low += 8) {
            for (int from = 0; from < 729; from += 500) {
                SampleStore x = new SampleStore();
                for (int s = 0; s < 8; s++) {
                    x.series(low + s);
                }
                for (int m = from; m < 729 && m < from + 500; m++) {
                    check.due("14: matcher " + m + ", labels from " + low, x.matching(m), expectedBits(m, low));
                }
            }
        }
    }

    private static int expectedBits(int matcher, int low) {
        String digits = String.format("%3s", Integer.toString(matcher, 9)).replace(' ', '0');
        int bits = 0;
        for (int s = 0; s < 8; s++) {
            String labels = String.format("%3s", Integer.toString(low + s, 4)).replace(' ', '0');
            boolean all = true;
            for (int place = 0; place < 3; place++) {
                String allowed = new String[] {"0", "1", "2", "3", "0123", "123", "023", "013", "012"}
                    [digits.charAt(place) - '0'];
                all &= allowed.indexOf(labels.charAt(place)) >= 0;
            }
            bits += all ? 1 << s : 0;
        }
        return bits;
    }

    // Promise 15

    private static void lengthOfSeries() {
        SampleStore x = oneSeries(10, 1, 20, 2);
        x.series(1);
        check.due("15: two", x.length(0), 2);
        check.due("15: none yet", x.length(1), 0);
        check.due("15: no such series", x.length(2), SampleStore.BAD);
        check.due("15: 8", x.length(8), SampleStore.BAD);
        check.due("15: -1", x.length(-1), SampleStore.BAD);
        check.due("15: MIN", x.length(MIN), SampleStore.BAD);
        check.due("15: MAX", x.length(MAX), SampleStore.BAD);
        check.due("15: last of a full store", fullStore().length(7), 32);
    }

    // Promise 16

    private static void levelShowsInNoAnswer() {
        SampleStore x = new SampleStore();
        check.due("16: level(-1)", x.level(-1), false);
        check.due("16: level(3)", x.level(3), false);
        check.due("16: level(MIN)", x.level(MIN), false);
        check.due("16: level(MAX)", x.level(MAX), false);
        x.series(0);
        for (int k = 0; k <= 2; k++) {
            appendAll(x, 0, 10 * k, k, 10 * k + 5, -k);
            x.sync();
            check.due("16: level " + k, x.level(k), true);
            check.due("16: length at level " + k, x.length(0), 2 * k + 2);
            check.due("16: sum at level " + k, x.sum(ALL, 0, 999), 0);
            check.due("16: crash at level " + k, x.crash(), 0);
            check.due("16: same level again " + k, x.level(k), true);
        }
        check.due("16: least", x.least(ALL, 0, 999), -2);
    }
}
