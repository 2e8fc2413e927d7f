import java.util.function.Supplier;

/** Promises 20 to 25 at their boundaries: what would be. */
public final class WouldBeBoundaryTest {
    private static final int BEYOND = Cases.BEYOND;
    private static final int NONE = Cases.NONE;
    private static final int STATE = Cases.STATE;

    private WouldBeBoundaryTest() {
    }

    public static void main(String[] args) throws IllegalAccessException {
        Cases.run(WouldBeBoundaryTest.class);
    }

    private static void due(String call, int got, int want) {
        Cases.due(call, got, want);
    }

    private static void served(ChapterLoan x, int debtor, int... want) {
        due("served(-1)", x.served(debtor, -1), want.length);
        for (int i = 0; i < 8; i++) {
            due("served(" + i + ")", x.served(debtor, i), i < want.length ? want[i] : NONE);
        }
    }

    private static void closed(ChapterLoan x, int debtor, int... want) {
        due("closed(-1)", x.closed(debtor, -1), want.length);
        for (int i = 0; i < 8; i++) {
            due("closed(" + i + ")", x.closed(debtor, i), i < want.length ? want[i] : NONE);
        }
    }

    private static void noneCloses(ChapterLoan x, int debtor) {
        for (int what = -1; what < 8; what++) {
            due("closed(" + what + ")", x.closed(debtor, what), NONE);
        }
    }

    /** A DEBTOR without a DEBT that told FACT 0 in WEEK 0, WITHIN some WEEKS BY the last FACT; now it is a WEEK. */
    private static ChapterLoan toldIn0(int facts, int within, int week) {
        ChapterLoan x = Cases.town(facts);
        x.debtor(0, 0);
        x.explain(0, within, facts - 1);
        x.tells(0, 0);
        if (week > 0) {
            x.weeks(week);
        }
        return x;
    }

    // ---- 20: served

    private static void promise20_withoutAnyFact() {
        served(Cases.town(0, 0), 0);
    }

    private static void promise20_allEight() {
        served(Cases.town(8, 0), 0, 0, 1, 2, 3, 4, 5, 6, 7);
    }

    private static void promise20_allAreTold() {
        ChapterLoan x = Cases.town(2, 0);
        x.tells(0, 0);
        served(x, 0, 1);
        x.tells(0, 1);
        served(x, 0);
    }

    private static void promise20_theRowIsNotSoLong() {
        Cases.onlyThought(1, Cases::busy, x -> x.served(2, -1));
        Cases.onlyThought(4, Cases::busy, x -> x.served(2, 0));
        Cases.refused(NONE, Cases::busy, x -> x.served(2, 1));
        Cases.refused(NONE, Cases::busy, x -> x.served(2, 7));
        Cases.onlyThought(0, Cases::busy, x -> x.served(0, -1));
        Cases.refused(NONE, Cases::busy, x -> x.served(0, 0));
        Supplier<ChapterLoan> seven = () -> Cases.town(7, 0);
        Cases.onlyThought(6, seven, x -> x.served(0, 6));
        Cases.refused(NONE, seven, x -> x.served(0, 7));
    }

    private static void promise20_whatOutsideOfMinus1To7() {
        Cases.outside(-1, 7, BEYOND, Cases::busy, (x, v) -> x.served(2, v));
        Cases.outside(-1, 7, BEYOND, () -> Cases.town(8, 0), (x, v) -> x.served(0, v));
    }

    private static void promise20_noSuchDebtor() {
        Cases.outside(0, 2, BEYOND, Cases::busy, (x, v) -> x.served(v, -1));
    }

    private static void promise20_brokenIsState() {
        Cases.refused(STATE, Cases::busy, x -> x.served(1, -1));
        Cases.refused(STATE, Cases::busy, x -> x.served(1, 7));
    }

    private static void promise20_beyondAheadOfState() {
        Cases.outside(-1, 7, BEYOND, Cases::busy, (x, v) -> x.served(1, v));
    }

    private static void promise20_explainedInTheWeekInWhichItWouldBeOverdue() {
        ChapterLoan x = Cases.town(4, 0);
        x.explain(0, 1, 3);
        served(x, 0, 0, 3, 1, 2);
        x.explain(0, 2, 3);
        served(x, 0, 0, 1, 3, 2);
        x.explain(0, 3, 3);
        served(x, 0, 0, 1, 2, 3);
    }

    private static void promise20_fromThisWeekOn() {
        served(toldIn0(4, 3, 0), 0, 1, 2, 3);
        served(toldIn0(4, 3, 1), 0, 1, 2, 3);
        served(toldIn0(4, 3, 2), 0, 1, 3, 2);
        served(toldIn0(4, 3, 3), 0, 3, 1, 2);
        served(toldIn0(4, 3, 4), 0, 3, 1, 2);
    }

    private static void promise20_whatIsOverdueAheadOfTheFirst() {
        served(toldIn0(3, 1, 5), 0, 2, 1);
        ChapterLoan x = toldIn0(3, 1, 5);
        x.clash(0, 2, 1);
        served(x, 0);
    }

    private static void promise20_withinOf9() {
        ChapterLoan x = toldIn0(8, 9, 3);
        served(x, 0, 1, 2, 3, 4, 5, 6, 7);
        x.weeks(1);
        served(x, 0, 1, 2, 3, 4, 5, 7, 6);
    }

    private static void promise20_theLongestAheadOfTheFirst() {
        ChapterLoan x = Cases.town(3, 0);
        x.clash(0, 1, 1);
        served(x, 0, 0, 2);
        x.clash(0, 2, 1);
        served(x, 0, 1, 2);
    }

    private static void promise20_whatExplainsIsNeverTold() {
        ChapterLoan x = Cases.town(3, 0);
        x.explain(0, 1, 2);
        x.clash(0, 2, 1);
        served(x, 0, 1, 0);
        x.explain(0, 2, 2);
        served(x, 0, 0, 1);
    }

    /**
     * 7 was told a WEEK ago. FACT 0 explains 7 and needs 1 .. 6, so it comes last, six WEEKS behind the first of
     * them. It is to explain one of those within some WEEKS, and others, a set, within nine.
     */
    private static ChapterLoan lastExplains(int hasty, int within, int others) {
        ChapterLoan x = new ChapterLoan();
        x.fact(126, 0);
        for (int f = 1; f <= 7; f++) {
            x.fact(0, 0);
            x.explain(f, f == 7 || (others >> f & 1) == 1 ? 9 : 0, 0);
        }
        x.explain(hasty, within, 0);
        x.debtor(0, 0);
        x.tells(0, 7);
        x.weeks(1);
        return x;
    }

    /** 1 .. 6 but for one, which comes in at a place, or where it would stand if that is later; then 0. */
    private static int[] rowWith(int hasty, int place) {
        int[] row = new int[7];
        int next = 0;
        for (int f = 1; f <= 6; f++) {
            if (f != hasty) {
                next += next == Math.max(place, hasty - 1) ? 1 : 0;
                row[next] = f;
                next++;
            }
        }
        row[Math.max(place, hasty - 1)] = hasty;
        return row;
    }

    private static void promise20_noEarlierThanItCanBeExplained() {
        for (int hasty = 1; hasty <= 6; hasty++) {
            for (int within = 1; within <= 7; within++) {
                for (int others = 0; others < 128; others += 2) {
                    served(lastExplains(hasty, within, others), 0, rowWith(hasty, 6 - within));
                }
            }
        }
    }

    private static void promise20_needsFirst() {
        ChapterLoan x = new ChapterLoan();
        x.fact(2, 0);
        x.fact(4, 0);
        x.fact(0, 0);
        x.fact(16, 0);
        x.debtor(0, 0);
        served(x, 0, 2, 1, 0);
    }

    private static void promise20_withoutADebt() {
        ChapterLoan x = Cases.town(2);
        x.debtor(30, 0);
        served(x, 0, 0, 1);
    }

    private static void promise20_asItMayTellThen() {
        ChapterLoan x = Cases.town(2, 0, 30, 60, 61);
        x.clash(0, 1, 1);
        served(x, 0, 0);
        served(x, 1, 0, 1);
        served(x, 2, 0);
        served(x, 3, 0, 1);
    }

    private static void promise20_anotherOnesBookAsItIs() {
        ChapterLoan x = new ChapterLoan();
        x.fact(4, 0);
        x.fact(0, 0);
        x.debtor(10, 0);
        x.debtor(21, 0);
        served(x, 0, 1);
        x.tells(1, 0);
        served(x, 0, 0, 1);
    }

    private static void promise20_beyondWeek999() {
        ChapterLoan x = Cases.inWeek(999, 3);
        x.explain(0, 1, 2);
        served(x, 0, 0, 2, 1);
    }

    // ---- 21: closed

    private static void promise21_noneTooWhereNothingIsOpen() {
        closed(Cases.town(0, 0), 0);
        closed(Cases.town(8, 0), 0);
        Cases.onlyThought(0, () -> Cases.town(8, 0), x -> x.closed(0, -1));
        Cases.refused(NONE, () -> Cases.town(8, 0), x -> x.closed(0, 0));
    }

    private static void promise21_theRowIsNotSoLong() {
        Cases.onlyThought(1, Cases::busy, x -> x.closed(2, -1));
        Cases.onlyThought(4, Cases::busy, x -> x.closed(2, 0));
        Cases.refused(NONE, Cases::busy, x -> x.closed(2, 1));
        Cases.refused(NONE, Cases::busy, x -> x.closed(2, 7));
    }

    private static void promise21_thereIsNoSuchRow() {
        for (int what = -1; what < 8; what++) {
            int asked = what;
            Cases.refused(NONE, Cases::busy, x -> x.closed(0, asked));
        }
    }

    private static void promise21_whatOutsideOfMinus1To7() {
        Cases.outside(-1, 7, BEYOND, Cases::busy, (x, v) -> x.closed(2, v));
        Cases.outside(-1, 7, BEYOND, Cases::busy, (x, v) -> x.closed(0, v));
    }

    private static void promise21_noSuchDebtor() {
        Cases.outside(0, 2, BEYOND, Cases::busy, (x, v) -> x.closed(v, -1));
    }

    private static void promise21_brokenIsState() {
        Cases.refused(STATE, Cases::busy, x -> x.closed(1, -1));
        Cases.refused(STATE, Cases::broken, x -> x.closed(0, 7));
    }

    private static void promise21_beyondAheadOfState() {
        Cases.outside(-1, 7, BEYOND, Cases::busy, (x, v) -> x.closed(1, v));
    }

    private static void promise21_theLongestOfAll() {
        ChapterLoan x = new ChapterLoan();
        for (int f = 0; f < 7; f++) {
            x.fact(0, 0);
        }
        x.fact(126, 0);
        x.debtor(0, 0);
        x.explain(0, 7, 7);
        x.tells(0, 0);
        closed(x, 0, 1, 2, 3, 4, 5, 6, 7);
        x.explain(0, 6, 7);
        closed(x, 0, 1, 2, 3, 4, 5, 6, 7);
        x.explain(0, 5, 7);
        noneCloses(x, 0);
    }

    private static void promise21_explainedInTheWeekInWhichItWouldBeOverdue() {
        for (int week = 0; week < 3; week++) {
            ChapterLoan x = new ChapterLoan();
            x.fact(0, 0);
            x.fact(0, 0);
            x.fact(2, 0);
            x.debtor(0, 0);
            x.explain(0, 2, 2);
            x.tells(0, 0);
            if (week > 0) {
                x.weeks(week);
            }
            if (week < 2) {
                closed(x, 0, 1, 2);
            } else {
                noneCloses(x, 0);
            }
        }
    }

    private static void promise21_whatIsOverdueNow() {
        closed(toldIn0(3, 1, 1), 0, 2);
        closed(toldIn0(3, 1, 9), 0, 2);
    }

    private static void promise21_theShortestAheadOfTheFirst() {
        ChapterLoan x = toldIn0(4, 9, 0);
        closed(x, 0, 3);
        x.explain(3, 9, 2);
        closed(x, 0, 2, 3);
        x.explain(2, 9, 1);
        closed(x, 0, 1, 2, 3);
        x.explain(2, 9, 0);
        closed(x, 0, 2, 3);
    }

    private static void promise21_noEarlierThanItCanBeExplained() {
        for (int hasty = 1; hasty <= 6; hasty++) {
            for (int within = 1; within <= 7; within++) {
                for (int others = 0; others < 128; others += 2) {
                    closed(lastExplains(hasty, within, others), 0, rowWith(hasty, 6 - within));
                }
            }
        }
    }

    private static void promise21_theFirstAsARow() {
        ChapterLoan x = Cases.town(4);
        x.debtor(0, 0);
        x.explain(0, 9, 3);
        x.explain(1, 9, 2);
        x.tells(0, 0);
        x.tells(0, 1);
        closed(x, 0, 2, 3);
        x.explain(0, 1, 3);
        closed(x, 0, 2, 3);
        x.weeks(1);
        closed(x, 0, 3, 2);
    }

    // ---- 22: clashOf

    private static ChapterLoan eight() {
        ChapterLoan x = Cases.town(8);
        x.clash(0, 7, 1);
        x.clash(6, 7, 1);
        x.clash(3, 5, 1);
        x.clash(3, 4, 1);
        return x;
    }

    private static void promise22_theFirstTwo() {
        ChapterLoan x = eight();
        due("all", x.clashOf(255), 7);
        due("without 0", x.clashOf(254), 34);
        due("without 0, 4", x.clashOf(254 - 16), 35);
        due("without 0, 3", x.clashOf(254 - 8), 67);
    }

    private static void promise22_noneDo() {
        Cases.refused(NONE, WouldBeBoundaryTest::eight, x -> x.clashOf(1 + 2 + 4 + 8));
        Cases.refused(NONE, WouldBeBoundaryTest::eight, x -> x.clashOf(127 - 8));
    }

    private static void promise22_noneAndOneAlone() {
        Cases.refused(NONE, WouldBeBoundaryTest::eight, x -> x.clashOf(0));
        Cases.refused(NONE, WouldBeBoundaryTest::eight, x -> x.clashOf(128));
        Cases.refused(NONE, ChapterLoan::new, x -> x.clashOf(0));
    }

    private static void promise22_setOutsideOf0To255() {
        Cases.outside(0, 255, BEYOND, WouldBeBoundaryTest::eight, (x, v) -> x.clashOf(v));
    }

    private static void promise22_factsThatThereAre() {
        Cases.outside(0, 31, BEYOND, Cases::busy, (x, v) -> x.clashOf(v));
        due("all there are", Cases.busy().clashOf(31), 13);
    }

    private static void promise22_theTwoAlone() {
        Cases.onlyThought(7, WouldBeBoundaryTest::eight, x -> x.clashOf(129));
        Cases.onlyThought(67, WouldBeBoundaryTest::eight, x -> x.clashOf(192));
    }

    // ---- 23: joined

    private static void promise23_emptyBooks() {
        due("both", Cases.town(1, 0, 0).joined(0, 1), 0);
        ChapterLoan x = Cases.town(8, 0, 0);
        x.tells(1, 7);
        due("one of them", x.joined(0, 1), 128);
        due("the other one", x.joined(1, 0), 128);
    }

    private static void promise23_alike() {
        Cases.onlyThought(7, Cases::busy, x -> x.joined(0, 2));
        Cases.onlyThought(7, Cases::busy, x -> x.joined(2, 0));
    }

    private static void promise23_twoClash() {
        Cases.refused(NONE, Cases::busy, x -> x.joined(0, 1));
        Cases.refused(NONE, Cases::busy, x -> x.joined(1, 0));
    }

    private static void promise23_theFirstAndTheLastFact() {
        ChapterLoan x = Cases.town(8, 0, 0);
        x.clash(0, 7, 1);
        x.tells(0, 0);
        x.tells(1, 6);
        due("not yet", x.joined(0, 1), 65);
        x.tells(1, 7);
        due("0 and 7", x.joined(0, 1), NONE);
        due("7 and 0", x.joined(1, 0), NONE);
    }

    private static void promise23_aClashInsideOfOneBookAlone() {
        ChapterLoan x = Cases.town(3, 30, 0);
        x.clash(0, 1, 1);
        x.tells(0, 0);
        x.tells(0, 1);
        due("the other one is empty", x.joined(0, 1), 3);
        x.tells(1, 2);
        due("the other one clashes with none", x.joined(1, 0), 7);
        x.tells(1, 1);
        due("it clashes with the first", x.joined(1, 0), NONE);
    }

    private static void promise23_oneTwice() {
        for (int d = 0; d < 3; d++) {
            int twice = d;
            Cases.refused(BEYOND, Cases::busy, x -> x.joined(twice, twice));
        }
    }

    private static void promise23_noSuchDebtor() {
        Cases.outside(0, 2, BEYOND, Cases::busy, (x, v) -> x.joined(v, 0));
        Cases.outside(0, 2, BEYOND, Cases::busy, (x, v) -> x.joined(0, v));
    }

    // ---- 24: rated

    /** A DEBTOR of a KIND that owes, among eight FACTS that need nothing. */
    private static ChapterLoan owing(int km, int debt) {
        ChapterLoan x = Cases.town(8);
        x.debtor(km, debt);
        return x;
    }

    private static void promise24_noDebtNow() {
        for (int r = 1; r <= 4; r++) {
            int rate = r;
            Cases.onlyThought(0, () -> owing(0, 0), x -> x.rated(0, rate, 0));
            Cases.onlyThought(1, () -> owing(0, 0), x -> x.rated(0, rate, 1));
        }
    }

    private static void promise24_aDebtOf1() {
        Cases.onlyThought(1, () -> owing(0, 1), x -> x.rated(0, 1, 0));
        Cases.onlyThought(1, () -> owing(0, 1), x -> x.rated(0, 4, 1));
    }

    private static void promise24_allEightPayJustEnough() {
        int[][] want = {{1, 8}, {2, 4}, {3, 3}, {4, 2}};
        for (int[] row : want) {
            due("80 by " + row[0], owing(0, 80).rated(0, row[0], 0), row[1]);
            due("70 by " + row[0], owing(0, 70).rated(0, row[0], 0), (7 + row[0] - 1) / row[0]);
            Cases.refused(NONE, () -> owing(0, 81), x -> x.rated(0, row[0], 0));
        }
    }

    private static void promise24_byNone() {
        Cases.refused(NONE, () -> owing(0, 81), x -> x.rated(0, 1, 1));
        Cases.refused(NONE, () -> Cases.town(0, 0), x -> x.rated(0, 4, 1));
    }

    private static void promise24_theLeastOfSeveral() {
        due("20: two are as soon as three", owing(0, 20).rated(0, 1, 1), 2);
        due("30: three", owing(0, 30).rated(0, 1, 1), 3);
        due("31: four", owing(0, 31).rated(0, 1, 1), 4);
        due("50: three are as soon as four", owing(0, 50).rated(0, 1, 1), 3);
        due("70: four", owing(0, 70).rated(0, 1, 1), 4);
    }

    private static void promise24_rMattersForWhat0Alone() {
        for (int r = 1; r <= 4; r++) {
            due("BEST RATE", owing(0, 70).rated(0, r, 1), 4);
        }
    }

    private static void promise24_rOutsideOf1To4() {
        Cases.outside(1, 4, BEYOND, Cases::busy, (x, v) -> x.rated(0, v, 0));
        Cases.outside(1, 4, BEYOND, Cases::busy, (x, v) -> x.rated(2, v, 1));
        Cases.outside(1, 4, BEYOND, () -> owing(0, 0), (x, v) -> x.rated(0, v, 1));
    }

    private static void promise24_whatOutsideOf0And1() {
        Cases.outside(0, 1, BEYOND, Cases::busy, (x, v) -> x.rated(2, 1, v));
    }

    private static void promise24_noSuchDebtor() {
        Cases.outside(0, 2, BEYOND, Cases::busy, (x, v) -> x.rated(v, 1, 0));
    }

    private static void promise24_brokenIsNone() {
        Cases.refused(NONE, Cases::broken, x -> x.rated(0, 1, 0));
        Cases.refused(NONE, Cases::busy, x -> x.rated(1, 4, 1));
    }

    private static void promise24_brokenWithoutADebt() {
        ChapterLoan x = owing(0, 20);
        x.explain(0, 1, 7);
        due("it is BROKEN as it pays the last", x.weeks(2), 1);
        due("DEBT", x.ofDebtor(0, 2), 0);
        due("behind no WEEK", x.rated(0, 1, 0), 0);
        due("BEST RATE", x.rated(0, 4, 1), 1);
    }

    private static void promise24_inPlaceOfItsOwn() {
        due("a GHOST by one", owing(30, 20).rated(0, 1, 0), 2);
        due("a GHOST by two", owing(30, 20).rated(0, 2, 0), 1);
        due("a TWIN by one", owing(41, 10).rated(0, 1, 0), 2);
        due("a SAINT by three", owing(61, 30).rated(0, 3, 0), 1);
    }

    private static void promise24_othersByTheirOwn() {
        ChapterLoan x = Cases.town(2);
        x.fact(128, 0);
        x.debtor(10, 15);
        x.debtor(21, 99);
        due("1 tells 2 in WEEK 2, a WEEK too late", x.rated(0, 1, 0), NONE);
        x.tells(1, 0);
        due("in WEEK 1, and so 0 may in WEEK 2", x.rated(0, 1, 0), 3);
        due("by two a WEEK 0 needs it in WEEK 1", x.rated(0, 2, 0), NONE);
        due("BEST RATE", x.rated(0, 2, 1), 1);
    }

    private static void promise24_overdueByTheRate() {
        ChapterLoan x = owing(0, 40);
        x.explain(0, 1, 3);
        due("by one: OVERDUE", x.rated(0, 1, 0), NONE);
        due("by two: 3 is told in the WEEK", x.rated(0, 2, 0), 2);
        x.explain(0, 1, 4);
        due("by two: 4 isn't", x.rated(0, 2, 0), 2);
        due("its DEBT goes in that WEEK all the same", x.rated(0, 3, 0), 2);
        x.lend(0, 10);
        due("with more: by two", x.rated(0, 2, 0), NONE);
        due("with more: by three", x.rated(0, 3, 0), 2);
    }

    private static void promise24_beyondWeek999() {
        ChapterLoan x = Cases.inWeek(999, 3);
        x.lend(0, 30);
        due("by one", x.rated(0, 1, 0), 3);
        due("WEEK", x.count(2), 999);
    }

    private static void promise24_onlyThought() {
        Cases.onlyThought(1, Cases::busy, x -> x.rated(2, 1, 0));
        Cases.onlyThought(1, Cases::busy, x -> x.rated(2, 4, 1));
    }

    // ---- 25: explained

    private static ChapterLoan withSheet(ChapterLoan x, int... numbers) {
        Cases.sheet(x, 0, 32, numbers);
        return x;
    }

    private static void promise25_theSheetIsMissing() {
        Cases.refused(NONE, Cases::busy, x -> x.explained(0, 3));
    }

    private static void promise25_noSuchSheet() {
        Cases.outside(0, 3, BEYOND, Cases::busy, (x, v) -> x.explained(0, v));
    }

    private static void promise25_noSuchDebtor() {
        Cases.outside(0, 2, BEYOND, Cases::busy, (x, v) -> x.explained(v, 0));
    }

    private static void promise25_beyondAheadOfNone() {
        Cases.outside(0, 2, BEYOND, Cases::busy, (x, v) -> x.explained(v, 3));
    }

    private static void promise25_noNumbers() {
        Cases.onlyThought(0, () -> withSheet(Cases.busy()), x -> x.explained(0, 0));
        Cases.onlyThought(0, () -> withSheet(Cases.busy()), x -> x.explained(1, 0));
        due("without a FACT", withSheet(Cases.town(0, 69)).explained(0, 0), 0);
    }

    private static void promise25_byNoKind() {
        Cases.refused(NONE, Cases::busy, x -> x.explained(0, 0));
        Cases.refused(NONE, () -> withSheet(Cases.busy(), 99), x -> x.explained(2, 0));
        Cases.refused(NONE, () -> withSheet(Cases.busy(), -1), x -> x.explained(2, 0));
    }

    private static void promise25_brokenTellsNone() {
        Cases.refused(NONE, () -> withSheet(Cases.broken(), 0), x -> x.explained(0, 0));
        ChapterLoan x = Cases.broken();
        x.fact(0, 0);
        due("nor another one", withSheet(x, 1).explained(0, 0), NONE);
    }

    private static void promise25_withoutADebtItTellsNone() {
        ChapterLoan x = Cases.town(1);
        x.debtor(0, 0);
        due("none", withSheet(x, 0).explained(0, 0), NONE);
        x.lend(0, 1);
        due("one", x.explained(0, 0), 0);
    }

    private static void promise25_asManyAsItTells() {
        ChapterLoan x = Cases.town(3, 9);
        due("one", withSheet(x, 0).explained(0, 0), 0);
        due("all", withSheet(x, 0, 1, 2).explained(0, 0), 0);
        due("one more", withSheet(x, 0, 1, 2, 3).explained(0, 0), NONE);
        due("another order", withSheet(x, 0, 2).explained(0, 0), NONE);
        due("not from the first on", withSheet(x, 1, 2).explained(0, 0), NONE);
    }

    private static void promise25_allEight() {
        due("all", withSheet(Cases.town(8, 0), 0, 1, 2, 3, 4, 5, 6, 7).explained(0, 0), 0);
        due("a ninth", withSheet(Cases.town(8, 0), 0, 1, 2, 3, 4, 5, 6, 7, 0).explained(0, 0), NONE);
    }

    private static void promise25_fromNowOn() {
        ChapterLoan x = Cases.town(3, 0);
        x.tells(0, 1);
        due("not what it told ahead", withSheet(x, 1, 0).explained(0, 0), NONE);
        due("what it tells", withSheet(x, 0, 2).explained(0, 0), 0);
    }

    private static void promise25_theLeastKind() {
        ChapterLoan x = new ChapterLoan();
        x.fact(2, 0);
        x.fact(0, 0);
        x.fact(0, 0);
        x.clash(1, 2, 1);
        x.debtor(63, 100);
        due("as a DEBTOR", withSheet(x, 1, 0).explained(0, 0), 0);
        due("as a GHOST", withSheet(x, 1, 0, 2).explained(0, 0), 3);
        x.become(0, 61);
        due("as a DREAMER", withSheet(x, 0, 1).explained(0, 0), 2);
        due("as a SEER", withSheet(x, 0, 2).explained(0, 0), 5);
    }

    /** 1 CLASHES with 0, which 3 must explain in the next WEEK: by one a WEEK, 2 comes and it is BROKEN. */
    private static ChapterLoan hasty(int m) {
        ChapterLoan x = Cases.town(5);
        x.clash(0, 1, 1);
        x.explain(0, 1, 3);
        x.debtor(m, 100);
        return x;
    }

    private static void promise25_theLastKindAlone() {
        due("a SAINT of an even m", withSheet(hasty(8), 0, 2, 3).explained(0, 0), 6);
        due("a TWIN of an odd m", withSheet(hasty(9), 0, 2, 3).explained(0, 0), 4);
        due("a DEBTOR up to there", withSheet(hasty(9), 0, 2).explained(0, 0), 0);
        due("a GHOST", withSheet(hasty(8), 0, 1, 2, 3, 4).explained(0, 0), 3);
    }

    private static void promise25_withItsM() {
        ChapterLoan x = new ChapterLoan();
        x.fact(128, 0);
        x.fact(0, 0);
        x.debtor(0, 100);
        int[][] want = {{0, NONE}, {1, 2}, {2, 2}, {3, NONE}, {9, NONE}};
        for (int[] row : want) {
            x.become(0, row[0]);
            due("with m " + row[0], withSheet(x, 0, 1).explained(0, 0), row[1]);
        }
    }

    private static void promise25_onlyThought() {
        Cases.onlyThought(1, () -> withSheet(Cases.busy(), 4), x -> x.explained(2, 0));
    }
}
