import java.util.List;

/** The boundary cases of the questions (promises 7 to 15), a test for each sentence. */
public final class QuestionBoundariesTest {
    private static final int MIN = Stores.MIN;
    private static final int MAX = Stores.MAX;
    private static final int ALL = Stores.ALL;
    private static final int BAD = SampleStore.BAD;
    private static final int NONE = SampleStore.NONE;
    private static final Check check = new Check();

    /** A question about a matcher and a stretch of times. */
    private interface Question {
        int ask(SampleStore x, int matcher, int t, int u);
    }

    private static final Question COUNT = SampleStore::count;
    private static final Question SUM = SampleStore::sum;
    private static final Question LEAST = SampleStore::least;
    private static final Question MOST = SampleStore::most;
    private static final Question GROWTH = SampleStore::growth;
    private static final Question FIRST = (x, matcher, t, u) -> x.ranked(matcher, t, u, 0);
    private static final List<Question> QUESTIONS = List.of(COUNT, SUM, LEAST, MOST, GROWTH, FIRST);

    public static void main(String[] args) {
        aboutMatchers();
        aboutStretches();
        aboutCountAndSum();
        aboutLeastAndMost();
        aboutGrowth();
        aboutAt();
        aboutRanked();
        aboutLength();
        aboutAllQuestions();
        check.end();
    }

    // The document's words, each with its test

    private static void aboutMatchers() {
        check.sentence("Terms: three digits to base 9, the lowest for label 0",
            QuestionBoundariesTest::digitsStandForTheirLabels);
        check.sentence("Terms: a digit from 0 to 3 asks for that value", QuestionBoundariesTest::digitsForOneValue);
        check.sentence("Terms: 4 for any", QuestionBoundariesTest::digitForAnyValue);
        check.sentence("Terms: 5 to 8 for any but the digit less 5", QuestionBoundariesTest::digitsForAnyBut);
        check.sentence("Terms: matches if all three hold", QuestionBoundariesTest::twoOfThreeAreNoMatch);
        check.sentence("14: the series that match", QuestionBoundariesTest::eachMatcherWithEachLabels);
        check.sentence("14: as a set of bits", QuestionBoundariesTest::bitsOfTheFirstAndTheLastSeries);
        check.sentence("14: no series, no bits", QuestionBoundariesTest::noBits);
        check.sentence("14: BAD for matcher outside 0..728", QuestionBoundariesTest::matchingOutsideIsBad);
        check.sentence("Terms: a question takes the samples in all series that match",
            QuestionBoundariesTest::questionsTakeTheSeriesThatMatch);
    }

    private static void aboutStretches() {
        check.sentence("Terms: whose times are from t", QuestionBoundariesTest::theStretchBeginsWithT);
        check.sentence("Terms: whose times are to u", QuestionBoundariesTest::theStretchEndsWithU);
        check.sentence("Terms: from t to u, one time", QuestionBoundariesTest::aStretchOfOneTime);
        check.sentence("Terms: from t to u, u below t", QuestionBoundariesTest::aStretchTheWrongWayIsEmpty);
        check.sentence("Terms: from t to u, any ints", QuestionBoundariesTest::aStretchOfAnyInts);
    }

    private static void aboutCountAndSum() {
        check.sentence("7: the number of samples", QuestionBoundariesTest::countFromNoneToAll);
        check.sentence("7: matcher outside 0..728: BAD", QuestionBoundariesTest::countOutsideIsBad);
        check.sentence("8: the sum of the values", QuestionBoundariesTest::sumFromLeastToGreatest);
        check.sentence("8: of no values", QuestionBoundariesTest::sumOfNone);
        check.sentence("8: 0 for matcher outside 0..728", QuestionBoundariesTest::sumOutsideIsZero);
    }

    private static void aboutLeastAndMost() {
        check.sentence("9: the smallest value", QuestionBoundariesTest::leastWhereverItStands);
        check.sentence("9: matcher outside 0..728: BAD", QuestionBoundariesTest::leastOutsideIsBad);
        check.sentence("9: there is none: NONE", QuestionBoundariesTest::leastOfNone);
        check.sentence("10: the greatest value", QuestionBoundariesTest::mostWhereverItStands);
        check.sentence("10: matcher outside 0..728: BAD", QuestionBoundariesTest::mostOutsideIsBad);
        check.sentence("10: there is none: NONE", QuestionBoundariesTest::mostOfNone);
    }

    private static void aboutGrowth() {
        check.sentence("11: the later value less the earlier one if that is not below 0",
            QuestionBoundariesTest::growthOfARise);
        check.sentence("11: else the later value if that is above 0", QuestionBoundariesTest::growthOfAFallToAboveZero);
        check.sentence("11: else 0", QuestionBoundariesTest::growthOfAFallToZeroOrBelow);
        check.sentence("11: over every two samples that follow each other", QuestionBoundariesTest::growthOfFewAndMany);
        check.sentence("11: of those that the question takes", QuestionBoundariesTest::growthBeginsInTheStretch);
        check.sentence("11: of a series", QuestionBoundariesTest::growthKeepsSeriesApart);
        check.sentence("11: 0 for matcher outside 0..728", QuestionBoundariesTest::growthOutsideIsZero);
    }

    private static void aboutAt() {
        check.sentence("12: whose time is at most time", QuestionBoundariesTest::atTakesNoLaterSample);
        check.sentence("12: and above time - 50", QuestionBoundariesTest::atLooksBackLessThanFifty);
        check.sentence("12: the latest sample", QuestionBoundariesTest::atTakesTheLatest);
        check.sentence("12: there is no series s: BAD", QuestionBoundariesTest::atOfNoSeriesIsBad);
        check.sentence("12: time is outside 0..999: BAD", QuestionBoundariesTest::atATimeOutsideIsBad);
        check.sentence("12: there is none: NONE", QuestionBoundariesTest::atOfNone);
        check.sentence("12: tested in this order", QuestionBoundariesTest::atIsTestedInOrder);
    }

    private static void aboutRanked() {
        check.sentence("13: number k, from 0, in ascending order", QuestionBoundariesTest::rankedFromFirstToLast);
        check.sentence("13: of equal values each has its number", QuestionBoundariesTest::rankedWithEqualValues);
        check.sentence("13: of all values of a full store", QuestionBoundariesTest::rankedOfAFullStore);
        check.sentence("13: matcher outside 0..728: BAD", QuestionBoundariesTest::rankedOutsideIsBad);
        check.sentence("13: there is none: NONE, k too small or too large",
            QuestionBoundariesTest::rankedBeyondTheEnds);
        check.sentence("13: there is none: NONE, no samples", QuestionBoundariesTest::rankedOfNone);
    }

    private static void aboutLength() {
        check.sentence("15: the number of samples", QuestionBoundariesTest::lengthFromNoneTo32);
        check.sentence("15: BAD if there is none", QuestionBoundariesTest::lengthOfNoSeriesIsBad);
    }

    private static void aboutAllQuestions() {
        check.sentence("Not promised: nothing beyond the state changes described, so a question makes none",
            QuestionBoundariesTest::questionsLeaveAllAsItWas);
        check.sentence("Not promised: a question changes neither the present state nor the safe one",
            QuestionBoundariesTest::questionsKeepBothStates);
    }

    // Matchers, and promise 14

    /** 8 series with the labels low to low + 7. */
    private static SampleStore seriesFrom(int low) {
        SampleStore x = new SampleStore();
        for (int s = 0; s < 8; s++) {
            x.series(low + s);
        }
        return x;
    }

    /** 4 series, whose label at one place is 0 to 3 and whose others are 1. */
    private static SampleStore fourValues(int place) {
        SampleStore x = new SampleStore();
        for (int value = 0; value < 4; value++) {
            x.series(digitAt(place, value, 1, 4));
        }
        return x;
    }

    /** A number with three digits, all of them the same but the one at a place. */
    private static int digitAt(int place, int digit, int others, int base) {
        int number = 0;
        for (int i = 2; i >= 0; i--) {
            number = number * base + (i == place ? digit : others);
        }
        return number;
    }

    private static void digitsDue(int fromDigit, int... bits) {
        for (int place = 0; place < 3; place++) {
            for (int i = 0; i < bits.length; i++) {
                int digit = fromDigit + i;
                String told = "digit " + digit + " for label " + place;
                check.due(told, fourValues(place).matching(digitAt(place, digit, 1, 9)), bits[i]);
            }
        }
    }

    private static void digitsStandForTheirLabels() {
        SampleStore x = new SampleStore();
        x.series(Stores.labels(3, 0, 0));
        x.series(Stores.labels(0, 3, 0));
        x.series(Stores.labels(0, 0, 3));
        check.due("lowest digit", x.matching(3), 0b001);
        check.due("middle digit", x.matching(27), 0b010);
        check.due("highest digit", x.matching(243), 0b100);
        check.due("least matcher", x.matching(0), 0);
        check.due("greatest matcher, any but 3 3 3", x.matching(728), 0);
        x.series(0);
        check.due("least matcher, 0 0 0", x.matching(0), 0b1000);
        check.due("greatest matcher, 0 0 0", x.matching(728), 0b1000);
    }

    private static void digitsForOneValue() {
        digitsDue(0, 0b0001, 0b0010, 0b0100, 0b1000);
    }

    private static void digitForAnyValue() {
        digitsDue(4, 0b1111);
    }

    private static void digitsForAnyBut() {
        digitsDue(5, 0b1110, 0b1101, 0b1011, 0b0111);
    }

    private static void twoOfThreeAreNoMatch() {
        SampleStore x = new SampleStore();
        x.series(Stores.labels(1, 2, 3));
        check.due("all three", x.matching(Stores.matcher(1, 2, 3)), 1);
        check.due("not label 0", x.matching(Stores.matcher(0, 2, 3)), 0);
        check.due("not label 1", x.matching(Stores.matcher(1, 0, 3)), 0);
        check.due("not label 2", x.matching(Stores.matcher(1, 2, 0)), 0);
        check.due("any but label 0", x.matching(Stores.matcher(6, 4, 4)), 0);
        check.due("any but label 1", x.matching(Stores.matcher(4, 7, 4)), 0);
        check.due("any but label 2", x.matching(Stores.matcher(4, 4, 8)), 0);
    }

    /** A matcher from 500 on has an object of its own, for the 512 calls. */
    private static void eachMatcherWithEachLabels() {
        for (int low = 0; low < 64; low += 8) {
            for (int from = 0; from < 729; from += 500) {
                SampleStore x = seriesFrom(low);
                for (int m = from; m < 729 && m < from + 500; m++) {
                    check.due("matcher " + m + ", labels from " + low, x.matching(m), expectedBits(m, low));
                }
            }
        }
    }

    private static int expectedBits(int matcher, int low) {
        String[] allowed = {"0", "1", "2", "3", "0123", "123", "023", "013", "012"};
        String digits = threeDigits(matcher, 9);
        int bits = 0;
        for (int s = 0; s < 8; s++) {
            String labels = threeDigits(low + s, 4);
            boolean all = true;
            for (int place = 0; place < 3; place++) {
                all &= allowed[digits.charAt(place) - '0'].indexOf(labels.charAt(place)) >= 0;
            }
            bits += all ? 1 << s : 0;
        }
        return bits;
    }

    private static String threeDigits(int number, int base) {
        return String.format("%3s", Integer.toString(number, base)).replace(' ', '0');
    }

    private static void bitsOfTheFirstAndTheLastSeries() {
        SampleStore x = seriesFrom(8);
        check.due("all 8", x.matching(ALL), 255);
        check.due("the first", x.matching(Stores.matcher(0, 2, 0)), 1);
        check.due("the last", x.matching(Stores.matcher(3, 3, 0)), 128);
        check.due("first and last of four", x.matching(Stores.matcher(4, 3, 4)), 0b11110000);
    }

    private static void noBits() {
        SampleStore x = new SampleStore();
        check.due("no series", x.matching(ALL), 0);
        x.series(0);
        check.due("none that matches", x.matching(Stores.matcher(4, 4, 1)), 0);
        check.due("a series without samples matches", x.matching(ALL), 1);
    }

    private static void matchingOutsideIsBad() {
        for (int matcher : Stores.OUTSIDE_MATCHERS) {
            check.due("matching(" + matcher + "), full", Stores.fullStore().matching(matcher), BAD);
            check.due("matching(" + matcher + "), empty", new SampleStore().matching(matcher), BAD);
        }
        check.due("matching(0)", Stores.oneSeries().matching(0), 1);
        check.due("matching(728)", Stores.oneSeries().matching(728), 1);
    }

    private static void questionsTakeTheSeriesThatMatch() {
        SampleStore x = Stores.oneSeries(1, 10, 2, 15);
        x.series(1);
        Stores.appendAll(x, 1, 1, -100, 2, -99);
        x.series(2);
        Stores.appendAll(x, 2, 1, 500, 2, 700);
        due(x, "the first", Stores.matcher(0, 4, 4), 2, 25, 10, 15, 5);
        due(x, "the last", Stores.matcher(2, 4, 4), 2, 1200, 500, 700, 200);
        due(x, "all but the middle one", Stores.matcher(6, 4, 4), 4, 1225, 10, 700, 205);
        due(x, "all", ALL, 6, 1026, -100, 700, 206);
        due(x, "none", Stores.matcher(3, 4, 4), 0, 0, NONE, NONE, 0);
    }

    /** What is due from all questions about a matcher, over all times. */
    private static void due(SampleStore x, String told, int m, int count, int sum, int least, int most, int growth) {
        int[] due = {count, sum, least, most, growth, least};
        for (int i = 0; i < due.length; i++) {
            check.due("question " + i + ", " + told, QUESTIONS.get(i).ask(x, m, MIN, MAX), due[i]);
        }
    }

    // Stretches

    private static SampleStore threeSamples() {
        return Stores.oneSeries(10, 1, 20, 3, 30, 7);
    }

    /** What is due from all questions about a stretch, in the order of QUESTIONS. */
    private static void dueFrom(SampleStore x, int t, int u, int... due) {
        for (int i = 0; i < due.length; i++) {
            check.due("question " + i + " from " + t + " to " + u, QUESTIONS.get(i).ask(x, ALL, t, u), due[i]);
        }
    }

    private static void theStretchBeginsWithT() {
        dueFrom(threeSamples(), 9, 30, 3, 11, 1, 7, 6, 1);
        dueFrom(threeSamples(), 10, 30, 3, 11, 1, 7, 6, 1);
        dueFrom(threeSamples(), 11, 30, 2, 10, 3, 7, 4, 3);
        dueFrom(threeSamples(), 30, 999, 1, 7, 7, 7, 0, 7);
        dueFrom(threeSamples(), 31, 999, 0, 0, NONE, NONE, 0, NONE);
    }

    private static void theStretchEndsWithU() {
        dueFrom(threeSamples(), 10, 31, 3, 11, 1, 7, 6, 1);
        dueFrom(threeSamples(), 10, 30, 3, 11, 1, 7, 6, 1);
        dueFrom(threeSamples(), 10, 29, 2, 4, 1, 3, 2, 1);
        dueFrom(threeSamples(), 0, 10, 1, 1, 1, 1, 0, 1);
        dueFrom(threeSamples(), 0, 9, 0, 0, NONE, NONE, 0, NONE);
    }

    private static void aStretchOfOneTime() {
        dueFrom(threeSamples(), 20, 20, 1, 3, 3, 3, 0, 3);
        dueFrom(threeSamples(), 21, 21, 0, 0, NONE, NONE, 0, NONE);
        dueFrom(Stores.oneSeries(0, 4), 0, 0, 1, 4, 4, 4, 0, 4);
        dueFrom(Stores.oneSeries(999, 4), 999, 999, 1, 4, 4, 4, 0, 4);
    }

    private static void aStretchTheWrongWayIsEmpty() {
        dueFrom(threeSamples(), 30, 10, 0, 0, NONE, NONE, 0, NONE);
        dueFrom(threeSamples(), 20, 19, 0, 0, NONE, NONE, 0, NONE);
        dueFrom(threeSamples(), 21, 20, 0, 0, NONE, NONE, 0, NONE);
        dueFrom(threeSamples(), MAX, MIN, 0, 0, NONE, NONE, 0, NONE);
    }

    private static void aStretchOfAnyInts() {
        dueFrom(threeSamples(), MIN, MAX, 3, 11, 1, 7, 6, 1);
        dueFrom(threeSamples(), MIN, 20, 2, 4, 1, 3, 2, 1);
        dueFrom(threeSamples(), 20, MAX, 2, 10, 3, 7, 4, 3);
        dueFrom(threeSamples(), MIN, -1, 0, 0, NONE, NONE, 0, NONE);
        dueFrom(threeSamples(), 1000, MAX, 0, 0, NONE, NONE, 0, NONE);
        dueFrom(threeSamples(), MIN, MIN, 0, 0, NONE, NONE, 0, NONE);
        dueFrom(threeSamples(), MAX, MAX, 0, 0, NONE, NONE, 0, NONE);
        dueFrom(Stores.oneSeries(0, 4, 999, 9), 0, 999, 2, 13, 4, 9, 5, 4);
    }

    // Promises 7 to 10

    /** A question's answer for matchers outside, whatever the store holds and the stretch is. */
    private static void outsideDue(Question question, int due) {
        for (int matcher : Stores.OUTSIDE_MATCHERS) {
            check.due("matcher " + matcher, question.ask(threeSamples(), matcher, MIN, MAX), due);
            check.due("matcher " + matcher + ", nothing taken", question.ask(threeSamples(), matcher, 5, 0), due);
            check.due("matcher " + matcher + ", new object", question.ask(new SampleStore(), matcher, MIN, MAX), due);
        }
    }

    /** A question's answer for the least and the greatest matcher, which ask for labels 0 0 0 and any but 3 3 3. */
    private static void insideDue(Question question, int due) {
        check.due("matcher 0", question.ask(threeSamples(), 0, MIN, MAX), due);
        check.due("matcher 728", question.ask(threeSamples(), 728, MIN, MAX), due);
    }

    /** A question's answer where it takes no sample. */
    private static void emptyDue(Question question, int due) {
        SampleStore x = new SampleStore();
        check.due("new object", question.ask(x, ALL, MIN, MAX), due);
        x.series(0);
        check.due("a series without samples", question.ask(x, ALL, MIN, MAX), due);
        x.append(0, 10, 5);
        check.due("no series that matches", question.ask(x, Stores.matcher(1, 4, 4), MIN, MAX), due);
        check.due("before the sample", question.ask(x, ALL, 0, 9), due);
        check.due("after the sample", question.ask(x, ALL, 11, 999), due);
        x.expire(MAX);
        check.due("all samples gone", question.ask(x, ALL, MIN, MAX), due);
    }

    private static void countFromNoneToAll() {
        emptyDue(COUNT, 0);
        check.due("one", Stores.oneSeries(0, 0).count(ALL, 0, 0), 1);
        check.due("a full store", Stores.fullStore().count(ALL, 0, 93), 256);
        check.due("all but the first times", Stores.fullStore().count(ALL, 1, 93), 248);
        check.due("all but the last times", Stores.fullStore().count(ALL, 0, 92), 248);
    }

    private static void countOutsideIsBad() {
        outsideDue(COUNT, BAD);
        insideDue(COUNT, 3);
    }

    private static SampleStore fullOf(int value) {
        SampleStore x = new SampleStore();
        for (int i = 0; i < 256; i++) {
            if (i % 32 == 0) {
                x.series(i / 32);
            }
            x.append(i / 32, i % 32, value);
        }
        return x;
    }

    private static void sumFromLeastToGreatest() {
        check.due("the greatest", fullOf(1000).sum(ALL, 0, 31), 256000);
        check.due("the least", fullOf(-1000).sum(ALL, 0, 31), -256000);
        check.due("one more, one less", Stores.oneSeries(1, 1000, 2, -1000).sum(ALL, 0, 999), 0);
        check.due("as low as BAD", fullOf(-1000).sum(Stores.matcher(0, 0, 0), 0, 9), -10000);
        check.due("a full store", Stores.fullStore().sum(ALL, MIN, MAX), 256 * 257 / 2 - 220 - 256 * 100);
    }

    private static void sumOfNone() {
        emptyDue(SUM, 0);
    }

    private static void sumOutsideIsZero() {
        outsideDue(SUM, 0);
        insideDue(SUM, 11);
    }

    private static void leastWhereverItStands() {
        check.due("first", Stores.oneSeries(1, -3, 2, 5, 3, 0).least(ALL, 0, 999), -3);
        check.due("middle", Stores.oneSeries(1, 5, 2, -3, 3, 0).least(ALL, 0, 999), -3);
        check.due("last", Stores.oneSeries(1, 5, 2, 0, 3, -3).least(ALL, 0, 999), -3);
        check.due("only one", Stores.oneSeries(1, 1000).least(ALL, 0, 999), 1000);
        check.due("all the same", fullOf(1000).least(ALL, 0, 999), 1000);
        check.due("the least there is", Stores.oneSeries(1, -999, 2, -1000).least(ALL, 0, 999), -1000);
        check.due("a full store", Stores.fullStore().least(ALL, 0, 999), -100);
    }

    private static void leastOutsideIsBad() {
        outsideDue(LEAST, BAD);
        insideDue(LEAST, 1);
    }

    private static void leastOfNone() {
        emptyDue(LEAST, NONE);
    }

    private static void mostWhereverItStands() {
        check.due("first", Stores.oneSeries(1, 3, 2, -5, 3, 0).most(ALL, 0, 999), 3);
        check.due("middle", Stores.oneSeries(1, -5, 2, 3, 3, 0).most(ALL, 0, 999), 3);
        check.due("last", Stores.oneSeries(1, -5, 2, 0, 3, 3).most(ALL, 0, 999), 3);
        check.due("only one", Stores.oneSeries(1, -1000).most(ALL, 0, 999), -1000);
        check.due("all the same", fullOf(-1000).most(ALL, 0, 999), -1000);
        check.due("the greatest there is", Stores.oneSeries(1, 999, 2, 1000).most(ALL, 0, 999), 1000);
        check.due("a full store", Stores.fullStore().most(ALL, 0, 999), 156);
    }

    private static void mostOutsideIsBad() {
        outsideDue(MOST, BAD);
        insideDue(MOST, 7);
    }

    private static void mostOfNone() {
        emptyDue(MOST, NONE);
    }

    // Promise 11

    private static void growthDue(int earlier, int later, int due) {
        int got = Stores.oneSeries(1, earlier, 2, later).growth(ALL, 0, 999);
        check.due("from " + earlier + " to " + later, got, due);
    }

    private static void growthOfARise() {
        growthDue(3, 3, 0);
        growthDue(0, 0, 0);
        growthDue(-3, -3, 0);
        growthDue(3, 4, 1);
        growthDue(0, 5, 5);
        growthDue(-10, -4, 6);
        growthDue(-5, 0, 5);
        growthDue(-5, 5, 10);
        growthDue(-1000, 1000, 2000);
    }

    private static void growthOfAFallToAboveZero() {
        growthDue(10, 9, 9);
        growthDue(10, 4, 4);
        growthDue(2, 1, 1);
        growthDue(1000, 1, 1);
        growthDue(1000, 999, 999);
    }

    private static void growthOfAFallToZeroOrBelow() {
        growthDue(1, 0, 0);
        growthDue(1000, 0, 0);
        growthDue(0, -1, 0);
        growthDue(10, -4, 0);
        growthDue(-4, -10, 0);
        growthDue(1000, -1000, 0);
    }

    private static void growthOfFewAndMany() {
        emptyDue(GROWTH, 0);
        check.due("one sample", Stores.oneSeries(1, 10).growth(ALL, 0, 999), 0);
        check.due("two samples", Stores.oneSeries(1, 10, 2, 11).growth(ALL, 0, 999), 1);
        check.due("three samples", Stores.oneSeries(1, 10, 2, 11, 3, 14).growth(ALL, 0, 999), 1 + 3);
        check.due("four samples", Stores.oneSeries(1, 10, 2, 11, 3, 14, 4, 5).growth(ALL, 0, 999), 1 + 3 + 5);
        SampleStore x = new SampleStore();
        for (int s = 0; s < 8; s++) {
            x.series(s);
            for (int i = 0; i < 32; i++) {
                x.append(s, i, i % 2 == 0 ? -1000 : 1000);
            }
        }
        check.due("a full store, up and down", x.growth(ALL, 0, 999), 8 * 16 * 2000);
        check.due("one series of it", x.growth(Stores.matcher(3, 1, 0), 0, 999), 16 * 2000);
        check.due("its last two samples", x.growth(Stores.matcher(3, 1, 0), 30, 31), 2000);
    }

    private static void growthBeginsInTheStretch() {
        SampleStore x = Stores.oneSeries(10, 1, 20, 5, 30, 2, 40, 9);
        check.due("all", x.growth(ALL, 10, 40), 4 + 2 + 7);
        check.due("without the first", x.growth(ALL, 11, 40), 2 + 7);
        check.due("without the last", x.growth(ALL, 10, 39), 4 + 2);
        check.due("one sample", x.growth(ALL, 20, 29), 0);
        x.expire(30);
        check.due("after some are gone", x.growth(ALL, 0, 999), 7);
    }

    private static void growthKeepsSeriesApart() {
        SampleStore x = Stores.oneSeries(10, 1);
        x.series(1);
        x.append(1, 20, 900);
        check.due("one sample each", x.growth(ALL, 0, 999), 0);
        x.append(1, 30, 950);
        check.due("two in the last", x.growth(ALL, 0, 999), 50);
        x.append(0, 35, 2);
        check.due("two each", x.growth(ALL, 0, 999), 51);
    }

    private static void growthOutsideIsZero() {
        outsideDue(GROWTH, 0);
        insideDue(GROWTH, 6);
    }

    // Promise 12

    private static void atTakesNoLaterSample() {
        SampleStore x = Stores.oneSeries(100, 1);
        check.due("one before", x.at(0, 99), NONE);
        check.due("on it", x.at(0, 100), 1);
        check.due("one after", x.at(0, 101), 1);
        check.due("0 on 0", Stores.oneSeries(0, 7).at(0, 0), 7);
        check.due("0 before 1", Stores.oneSeries(1, 7).at(0, 0), NONE);
        check.due("999 on 999", Stores.oneSeries(999, 7).at(0, 999), 7);
        check.due("998 before 999", Stores.oneSeries(999, 7).at(0, 998), NONE);
    }

    private static void atLooksBackLessThanFifty() {
        SampleStore x = Stores.oneSeries(100, 1);
        check.due("49 later", x.at(0, 149), 1);
        check.due("50 later", x.at(0, 150), NONE);
        check.due("51 later", x.at(0, 151), NONE);
        check.due("999", x.at(0, 999), NONE);
        check.due("0, 49 later", Stores.oneSeries(0, 7).at(0, 49), 7);
        check.due("0, 50 later", Stores.oneSeries(0, 7).at(0, 50), NONE);
        check.due("950, 49 later", Stores.oneSeries(950, 7).at(0, 999), 7);
        check.due("949, 50 later", Stores.oneSeries(949, 7).at(0, 999), NONE);
    }

    private static void atTakesTheLatest() {
        SampleStore x = Stores.oneSeries(100, 1, 101, 2, 110, 3);
        check.due("the first", x.at(0, 100), 1);
        check.due("the second", x.at(0, 101), 2);
        check.due("still the second", x.at(0, 109), 2);
        check.due("the third", x.at(0, 110), 3);
        check.due("the third at its end", x.at(0, 159), 3);
        SampleStore full = Stores.fullStore();
        for (int s = 0; s < 8; s++) {
            for (int i = 0; i < 31; i++) {
                check.due("series " + s + " at " + (i * 3 + 2), full.at(s, i * 3 + 2), Stores.valueInFull(s, i));
            }
        }
    }

    private static void atOfNoSeriesIsBad() {
        SampleStore none = new SampleStore();
        SampleStore one = Stores.oneSeries(10, 1);
        SampleStore full = Stores.fullStore();
        for (int s : Stores.NEVER_SERIES) {
            check.due("series " + s + " of none", none.at(s, 10), BAD);
            check.due("series " + s + " of one", one.at(s, 10), BAD);
            check.due("series " + s + " of 8", full.at(s, 10), BAD);
        }
        check.due("series 0 of none", none.at(0, 10), BAD);
        check.due("series 1 of one", one.at(1, 10), BAD);
        check.due("series 7 of 8", full.at(7, 0), Stores.valueInFull(7, 0));
    }

    private static void atATimeOutsideIsBad() {
        SampleStore x = Stores.oneSeries(0, 1, 999, 2);
        for (int time : Stores.OUTSIDE_TIMES) {
            check.due("time " + time, x.at(0, time), BAD);
        }
        check.due("time 0", x.at(0, 0), 1);
        check.due("time 999", x.at(0, 999), 2);
    }

    private static void atOfNone() {
        SampleStore x = Stores.oneSeries();
        check.due("no samples, time 0", x.at(0, 0), NONE);
        check.due("no samples, time 999", x.at(0, 999), NONE);
        x.append(0, 100, 5);
        check.due("before", x.at(0, 99), NONE);
        check.due("after", x.at(0, 150), NONE);
        x.expire(101);
        check.due("gone", x.at(0, 100), NONE);
    }

    private static void atIsTestedInOrder() {
        SampleStore x = Stores.oneSeries();
        check.due("no sample, time below", x.at(0, -1), BAD);
        check.due("no sample, time above", x.at(0, 1000), BAD);
        check.due("no series, no sample", x.at(1, 0), BAD);
        check.due("no series, time outside", x.at(-1, -1), BAD);
    }

    // Promise 13

    private static void rankedFromFirstToLast() {
        SampleStore x = Stores.oneSeries(10, 5, 20, -7, 40, 1000);
        x.series(1);
        Stores.appendAll(x, 1, 5, 0, 15, -1000);
        rankedDue(x, -1000, -7, 0, 5, 1000);
        rankedDue(Stores.oneSeries(1, 3), 3);
        rankedDue(Stores.oneSeries(1, 1, 2, 2, 3, 3), 1, 2, 3);
        rankedDue(Stores.oneSeries(1, 3, 2, 2, 3, 1), 1, 2, 3);
    }

    private static void rankedDue(SampleStore x, int... ascending) {
        for (int k = 0; k < ascending.length; k++) {
            check.due("number " + k + " of " + ascending.length, x.ranked(ALL, 0, 999, k), ascending[k]);
        }
        check.due("beyond the last of " + ascending.length, x.ranked(ALL, 0, 999, ascending.length), NONE);
    }

    private static void rankedWithEqualValues() {
        rankedDue(Stores.oneSeries(1, 5, 2, 5), 5, 5);
        rankedDue(Stores.oneSeries(1, 5, 2, -5, 3, 5, 4, -5), -5, -5, 5, 5);
        SampleStore x = Stores.oneSeries(1, 4, 2, 9);
        x.series(1);
        Stores.appendAll(x, 1, 1, 4, 2, 9);
        rankedDue(x, 4, 4, 9, 9);
    }

    private static void rankedOfAFullStore() {
        // The values are all of -100..156 but the one that would come next.
        int missing = Stores.valueInFull(8, 0);
        SampleStore x = Stores.fullStore();
        for (int k = 0; k < 256; k += 5) {
            int value = k - 100;
            check.due("number " + k, x.ranked(ALL, MIN, MAX, k), value < missing ? value : value + 1);
        }
        check.due("number 255", x.ranked(ALL, MIN, MAX, 255), 156);
        check.due("number 256", x.ranked(ALL, MIN, MAX, 256), NONE);
    }

    private static void rankedOutsideIsBad() {
        outsideDue(FIRST, BAD);
        insideDue(FIRST, 1);
        for (int k : new int[] {-1, 3, MIN, MAX}) {
            outsideDue((x, matcher, t, u) -> x.ranked(matcher, t, u, k), BAD);
        }
    }

    private static void rankedBeyondTheEnds() {
        for (int k : new int[] {-1, -2, 3, 4, 255, 256, 257, MIN, MAX}) {
            check.due("number " + k + " of 3", threeSamples().ranked(ALL, 0, 999, k), NONE);
        }
        check.due("number 2 of 3", threeSamples().ranked(ALL, 0, 999, 2), 7);
        check.due("number 2 of the 2 in the stretch", threeSamples().ranked(ALL, 11, 999, 2), NONE);
        check.due("number 1 of the 2 in the stretch", threeSamples().ranked(ALL, 11, 999, 1), 7);
        check.due("number -1 of a full store", Stores.fullStore().ranked(ALL, 0, 999, -1), NONE);
        check.due("number MAX of a full store", Stores.fullStore().ranked(ALL, 0, 999, MAX), NONE);
    }

    private static void rankedOfNone() {
        emptyDue(FIRST, NONE);
        for (int k : new int[] {-1, 1, MIN, MAX}) {
            emptyDue((x, matcher, t, u) -> x.ranked(matcher, t, u, k), NONE);
        }
    }

    // Promise 15

    private static void lengthFromNoneTo32() {
        SampleStore x = Stores.oneSeries();
        check.due("none yet", x.length(0), 0);
        for (int i = 0; i < 32; i++) {
            x.append(0, i, i);
            check.due("length", x.length(0), i + 1);
        }
        x.append(0, 32, 32);
        check.due("after a 33rd", x.length(0), 32);
        x.expire(31);
        check.due("one left", x.length(0), 1);
        x.expire(32);
        check.due("none left", x.length(0), 0);
        check.due("first of a full store", Stores.fullStore().length(0), 32);
        check.due("last of a full store", Stores.fullStore().length(7), 32);
    }

    private static void lengthOfNoSeriesIsBad() {
        SampleStore one = Stores.oneSeries(10, 1);
        SampleStore full = Stores.fullStore();
        for (int s : Stores.NEVER_SERIES) {
            check.due("series " + s + " of one", one.length(s), BAD);
            check.due("series " + s + " of 8", full.length(s), BAD);
        }
        check.due("series 0 of none", new SampleStore().length(0), BAD);
        check.due("series 1 of one", one.length(1), BAD);
        check.due("series 7 of one", one.length(7), BAD);
    }

    // All questions

    private static void questionsLeaveAllAsItWas() {
        for (int matcher : new int[] {ALL, 0, 728, -1, 729, MIN, MAX}) {
            for (int i = 0; i < QUESTIONS.size(); i++) {
                Question question = QUESTIONS.get(i);
                check.due("question " + i + " with matcher " + matcher,
                    Stores.leavesAllAsItWas(x -> question.ask(x, matcher, MIN, MAX)), true);
            }
            check.due("matching(" + matcher + ")", Stores.leavesAllAsItWas(x -> x.matching(matcher)), true);
        }
        for (int s : new int[] {0, 1, 7, -1, 8, MIN, MAX}) {
            check.due("length(" + s + ")", Stores.leavesAllAsItWas(x -> x.length(s)), true);
            check.due("at(" + s + ", 93)", Stores.leavesAllAsItWas(x -> x.at(s, 93)), true);
            check.due("at(" + s + ", 1000)", Stores.leavesAllAsItWas(x -> x.at(s, 1000)), true);
        }
    }

    /** Told by its answers one by one, since a comparison of two stores would ask the same questions of both. */
    private static void questionsKeepBothStates() {
        SampleStore x = Stores.smallOverSafe();
        for (Question question : QUESTIONS) {
            question.ask(x, ALL, MIN, MAX);
        }
        x.matching(ALL);
        x.length(0);
        x.at(0, 93);
        check.due("a new time", x.append(0, 94, 1), 4);
        check.due("samples fewer", x.crash(), 3);
        check.due("what is safe", x.sum(ALL, MIN, MAX), 5 - 7 + 1000 - 1000);
        check.due("the safe series", x.matching(ALL), 3);
        check.due("after the safe time", x.append(0, 61, 1), 3);
    }
}
