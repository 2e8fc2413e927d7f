/** Promises 26 to 29 at their boundaries: who knows what by which WEEK. */
public final class KnowsBoundaryTest {
    private static final int BEYOND = Cases.BEYOND;
    private static final int NONE = Cases.NONE;
    private static final int FULL = Cases.FULL;

    private KnowsBoundaryTest() {
    }

    public static void main(String[] args) throws IllegalAccessException {
        Cases.run(KnowsBoundaryTest.class);
    }

    private static void due(String call, int got, int want) {
        Cases.due(call, got, want);
    }

    /** All the MEETINGS there can be. */
    private static ChapterLoan twelve() {
        ChapterLoan x = Cases.town(2, 0);
        for (int i = 0; i < 12; i++) {
            x.meeting(999 - i, 0, 4);
        }
        return x;
    }

    /** DEBTOR 0 told FACT 0 in WEEK 3, of which some FIGURES are WITNESSES. */
    private static ChapterLoan toldIn3(int witnesses) {
        ChapterLoan x = new ChapterLoan();
        x.fact(0, witnesses);
        x.debtor(0, 0);
        x.weeks(3);
        x.tells(0, 0);
        return x;
    }

    // ---- 26: meeting

    private static void promise26_numbersFrom0To11() {
        ChapterLoan x = new ChapterLoan();
        for (int i = 0; i < 12; i++) {
            due("meeting", x.meeting(999 - i, 0, 4), i);
        }
        due("how many", x.count(3), 12);
    }

    private static void promise26_theThirteenthIsFull() {
        Cases.refused(FULL, KnowsBoundaryTest::twelve, x -> x.meeting(0, 0, 1));
        Cases.refused(FULL, KnowsBoundaryTest::twelve, x -> x.meeting(999, 4, 3));
    }

    private static void promise26_weekOf0And999() {
        ChapterLoan x = new ChapterLoan();
        due("first", x.meeting(0, 0, 1), 0);
        due("last", x.meeting(999, 0, 1), 1);
    }

    private static void promise26_weekOutsideOf0To999() {
        Cases.outside(0, 999, BEYOND, Cases::busy, (x, v) -> x.meeting(v, 0, 1));
    }

    private static void promise26_figuresOutsideOf0To4() {
        Cases.outside(0, 4, BEYOND, Cases::busy, (x, v) -> x.meeting(0, v, 1));
        Cases.outside(0, 4, BEYOND, Cases::busy, (x, v) -> x.meeting(0, 1, v));
    }

    private static void promise26_oneTwice() {
        for (int figure = 0; figure < 5; figure++) {
            int twice = figure;
            Cases.refused(BEYOND, Cases::busy, x -> x.meeting(0, twice, twice));
        }
    }

    private static void promise26_beyondAheadOfFull() {
        Cases.outside(0, 999, BEYOND, KnowsBoundaryTest::twelve, (x, v) -> x.meeting(v, 0, 1));
        Cases.outside(0, 4, BEYOND, KnowsBoundaryTest::twelve, (x, v) -> x.meeting(0, v, 1));
        Cases.refused(BEYOND, KnowsBoundaryTest::twelve, x -> x.meeting(0, 2, 2));
    }

    private static void promise26_theTwelfthCountsToo() {
        ChapterLoan x = toldIn3(1);
        for (int i = 0; i < 11; i++) {
            x.meeting(4, 2, 3);
        }
        due("not yet", x.knows(4, 4), 0);
        x.meeting(4, 4, 0);
        due("by the twelfth", x.knows(4, 4), 1);
    }

    private static void promise26_oneOfTheSameAgain() {
        ChapterLoan x = new ChapterLoan();
        due("once", x.meeting(5, 0, 1), 0);
        due("again", x.meeting(5, 0, 1), 1);
        due("the other way round", x.meeting(5, 1, 0), 2);
    }

    // ---- 27: knows

    private static void promise27_figureOutsideOf0To4() {
        Cases.outside(0, 4, BEYOND, Cases::busy, (x, v) -> x.knows(v, 0));
    }

    private static void promise27_weekOutsideOf0To999() {
        Cases.outside(0, 999, BEYOND, Cases::busy, (x, v) -> x.knows(0, v));
    }

    private static void promise27_byTheWeekInWhichItWasTold() {
        ChapterLoan x = toldIn3(17);
        int[][] want = {{0, 0}, {2, 0}, {3, 1}, {4, 1}, {999, 1}};
        for (int[] row : want) {
            due("0 by " + row[0], x.knows(0, row[0]), row[1]);
            due("4 by " + row[0], x.knows(4, row[0]), row[1]);
            due("2, no WITNESS, by " + row[0], x.knows(2, row[0]), 0);
        }
    }

    private static void promise27_toldInWeek0AndIn999() {
        ChapterLoan x = new ChapterLoan();
        x.fact(0, 1);
        x.debtor(0, 0);
        x.tells(0, 0);
        due("in 0", x.knows(0, 0), 1);
        ChapterLoan y = Cases.inWeek(999, 0);
        y.fact(0, 1);
        y.tells(0, 0);
        due("in 999: by 998", y.knows(0, 998), 0);
        due("in 999: by 999", y.knows(0, 999), 1);
    }

    private static void promise27_noWitnessesAndAll() {
        for (int figure = 0; figure < 5; figure++) {
            due("none", toldIn3(0).knows(figure, 999), 0);
            due("all", toldIn3(31).knows(figure, 3), 1);
            due("one", toldIn3(1 << figure).knows(figure, 3), 1);
            due("the others", toldIn3(31 - (1 << figure)).knows(figure, 999), 0);
        }
    }

    private static void promise27_allEightFacts() {
        ChapterLoan x = new ChapterLoan();
        x.debtor(0, 0);
        for (int f = 0; f < 8; f++) {
            x.fact(0, 4);
            x.tells(0, f);
        }
        due("all", x.knows(2, 0), 255);
    }

    private static void promise27_byTheWeekOfTheMeeting() {
        ChapterLoan x = toldIn3(1);
        x.meeting(5, 1, 0);
        due("ahead of it", x.knows(1, 4), 0);
        due("in it", x.knows(1, 5), 1);
        due("behind it", x.knows(1, 999), 1);
    }

    private static void promise27_toldInTheWeekOfTheMeetingAndNextToIt() {
        int[][] want = {{2, 0}, {3, 1}, {4, 1}};
        for (int[] row : want) {
            ChapterLoan x = toldIn3(1);
            x.meeting(row[0], 0, 1);
            due("met in " + row[0], x.knows(1, 999), row[1]);
        }
    }

    private static void promise27_bothWays() {
        ChapterLoan x = new ChapterLoan();
        x.fact(0, 1);
        x.fact(0, 2);
        x.debtor(0, 0);
        x.tells(0, 0);
        x.tells(0, 1);
        x.meeting(0, 0, 1);
        due("one", x.knows(0, 0), 3);
        due("the other", x.knows(1, 0), 3);
    }

    private static void promise27_meetingsOfOneWeekByNumbers() {
        ChapterLoan x = toldIn3(1);
        x.meeting(5, 1, 2);
        x.meeting(5, 0, 1);
        due("1", x.knows(1, 5), 1);
        due("2 met 1 ahead of that", x.knows(2, 999), 0);
        x.meeting(5, 2, 1);
        due("2 met 1 again", x.knows(2, 5), 1);
    }

    private static void promise27_meetingsByWeeksAheadOfNumbers() {
        ChapterLoan x = toldIn3(1);
        x.meeting(6, 1, 2);
        x.meeting(5, 0, 1);
        due("1", x.knows(1, 5), 1);
        due("2 by 5", x.knows(2, 5), 0);
        due("2 by 6", x.knows(2, 6), 1);
        ChapterLoan y = toldIn3(1);
        y.meeting(5, 1, 2);
        y.meeting(6, 0, 1);
        due("2 met 1 too soon", y.knows(2, 999), 0);
    }

    private static void promise27_manyMeetingsMadeInAnotherOrder() {
        ChapterLoan x = toldIn3(1);
        x.meeting(10, 4, 3);
        x.meeting(8, 3, 2);
        x.meeting(6, 1, 2);
        x.meeting(4, 0, 1);
        int[] since = {3, 4, 6, 8, 10};
        for (int figure = 0; figure < 5; figure++) {
            due(figure + " ahead of it", x.knows(figure, since[figure] - 1), 0);
            due(figure + " by it", x.knows(figure, since[figure]), 1);
            due("since", x.since(figure, 0), since[figure]);
        }
        ChapterLoan y = toldIn3(1);
        y.meeting(4, 4, 3);
        y.meeting(6, 3, 2);
        y.meeting(8, 1, 2);
        y.meeting(10, 0, 1);
        for (int figure = 2; figure < 5; figure++) {
            due(figure + " met too soon", y.knows(figure, 999), 0);
        }
    }

    private static void promise27_meetingsInWeek999() {
        ChapterLoan x = toldIn3(1);
        x.meeting(999, 0, 1);
        x.meeting(999, 1, 2);
        due("by 998", x.knows(2, 998), 0);
        due("by 999", x.knows(2, 999), 1);
    }

    private static void promise27_inTwoBooksTheEarlierWeek() {
        for (int first = 0; first < 2; first++) {
            ChapterLoan x = new ChapterLoan();
            x.fact(0, 1);
            x.debtor(0, 0);
            x.debtor(0, 0);
            x.weeks(3);
            x.tells(first, 0);
            x.weeks(2);
            x.tells(1 - first, 0);
            due("by 2", x.knows(0, 2), 0);
            due("by 3", x.knows(0, 3), 1);
        }
    }

    private static void promise27_notWhatWasInABookThatIsEmptyNow() {
        ChapterLoan x = new ChapterLoan();
        x.fact(0, 1);
        x.debtor(0, 100);
        x.meeting(0, 0, 1);
        x.weeks(2);
        due("told", x.knows(1, 999), 1);
        x.pardon(0);
        due("pardoned", x.knows(0, 999) + x.knows(1, 999), 0);
    }

    private static void promise27_nothingIsDone() {
        Cases.onlyThought(17, Cases::busy, x -> x.knows(0, 999));
        Cases.onlyThought(0, Cases::busy, x -> x.knows(4, 0));
        Cases.onlyThought(8, Cases::busy, x -> x.knows(4, 1));
        Cases.onlyThought(9, Cases::busy, x -> x.knows(4, 2));
        Cases.onlyThought(9, Cases::busy, x -> x.knows(1, 2));
    }

    // ---- 28: common

    private static void promise28_setOf1And31() {
        ChapterLoan x = toldIn3(31);
        due("one alone", x.common(1, 3), 1);
        due("the last alone", x.common(16, 3), 1);
        due("all", x.common(31, 3), 1);
        ChapterLoan y = toldIn3(31 - 16);
        due("all but the last know it", y.common(15, 3), 1);
        due("all", y.common(31, 3), 0);
    }

    private static void promise28_setOutsideOf1To31() {
        Cases.outside(1, 31, BEYOND, Cases::busy, (x, v) -> x.common(v, 0));
    }

    private static void promise28_weekOutsideOf0To999() {
        Cases.outside(0, 999, BEYOND, Cases::busy, (x, v) -> x.common(1, v));
    }

    private static void promise28_byTheWeekInWhichItWasTold() {
        ChapterLoan x = toldIn3(3);
        due("by 2", x.common(3, 2), 0);
        due("by 3", x.common(3, 3), 1);
        due("by 999", x.common(3, 999), 1);
        due("by 0", x.common(3, 0), 0);
    }

    private static void promise28_byTheWeekOfTheMeeting() {
        ChapterLoan x = toldIn3(1);
        x.meeting(5, 0, 2);
        due("by 4", x.common(5, 4), 0);
        due("by 5", x.common(5, 5), 1);
        due("with one that knows nothing", x.common(7, 999), 0);
    }

    private static void promise28_nothingIsTold() {
        due("nothing", Cases.town(8, 0).common(1, 999), 0);
        due("no FACT", new ChapterLoan().common(31, 999), 0);
    }

    // ---- 29: since

    private static void promise29_figureOutsideOf0To4() {
        Cases.outside(0, 4, BEYOND, Cases::busy, (x, v) -> x.since(v, 0));
    }

    private static void promise29_noSuchFact() {
        Cases.outside(0, 4, BEYOND, Cases::busy, (x, v) -> x.since(0, v));
    }

    private static void promise29_byNoneUpTo999() {
        Cases.refused(NONE, Cases::busy, x -> x.since(3, 0));
        Cases.refused(NONE, () -> toldIn3(1), x -> x.since(1, 0));
        Cases.refused(NONE, KnowsBoundaryTest::twelve, x -> x.since(0, 0));
    }

    private static void promise29_inWeek0() {
        ChapterLoan x = new ChapterLoan();
        x.fact(0, 1);
        x.debtor(0, 0);
        x.tells(0, 0);
        x.meeting(0, 0, 1);
        due("a WITNESS", x.since(0, 0), 0);
        due("by a MEETING", x.since(1, 0), 0);
    }

    private static void promise29_inWeek999() {
        ChapterLoan x = Cases.inWeek(999, 0);
        x.fact(0, 1);
        x.tells(0, 0);
        due("told in 999", x.since(0, 0), 999);
        due("nobody told 1", x.since(1, 0), NONE);
        x.meeting(998, 0, 1);
        due("met too soon", x.since(1, 0), NONE);
        x.meeting(999, 0, 1);
        due("met in 999", x.since(1, 0), 999);
    }

    private static void promise29_theMeetingNextToTheTelling() {
        int[][] want = {{2, NONE}, {3, 3}, {4, 4}};
        for (int[] row : want) {
            ChapterLoan x = toldIn3(1);
            x.meeting(row[0], 0, 1);
            due("met in " + row[0], x.since(1, 0), row[1]);
            ChapterLoan y = toldIn3(1);
            y.meeting(row[0], 1, 0);
            due("met by 1 in " + row[0], y.since(1, 0), row[1]);
        }
    }

    private static void promise29_theFirstOfSeveralMeetings() {
        ChapterLoan x = toldIn3(1);
        x.meeting(9, 0, 1);
        x.meeting(7, 0, 1);
        x.meeting(8, 0, 1);
        due("the first", x.since(1, 0), 7);
    }

    private static void promise29_aWitnessThatMetLaterToo() {
        ChapterLoan x = toldIn3(3);
        x.meeting(9, 0, 1);
        due("as it was told", x.since(1, 0), 3);
    }

    private static void promise29_ofOneWeekByNumbers() {
        ChapterLoan x = toldIn3(1);
        x.meeting(5, 1, 2);
        x.meeting(5, 0, 1);
        due("1", x.since(1, 0), 5);
        due("2 met it too soon", x.since(2, 0), NONE);
        x.meeting(6, 1, 2);
        due("2 met it again", x.since(2, 0), 6);
    }

    private static void promise29_asKnows() {
        ChapterLoan x = Cases.busy();
        for (int figure = 0; figure < 5; figure++) {
            for (int fact = 0; fact < 5; fact++) {
                int since = x.since(figure, fact);
                int first = NONE;
                for (int week = 0; week < 8 && first == NONE; week++) {
                    first = (x.knows(figure, week) >> fact & 1) == 1 ? week : NONE;
                }
                due("since(" + figure + ", " + fact + ")", since, first);
            }
        }
    }
}
