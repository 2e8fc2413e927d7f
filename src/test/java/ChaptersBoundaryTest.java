/** Promises 11 to 16 at their boundaries: what is lent, told, pardoned; WEEKS that go by. */
public final class ChaptersBoundaryTest {
    private static final int BEYOND = Cases.BEYOND;
    private static final int STATE = Cases.STATE;

    private ChaptersBoundaryTest() {
    }

    public static void main(String[] args) throws IllegalAccessException {
        Cases.run(ChaptersBoundaryTest.class);
    }

    private static void due(String call, int got, int want) {
        Cases.due(call, got, want);
    }

    /** A town of one DEBTOR with a DEBT, and n FACTS that need nothing. */
    private static ChapterLoan owing(int n, int km, int debt) {
        ChapterLoan x = Cases.town(n);
        x.debtor(km, debt);
        return x;
    }

    private static ChapterLoan in999() {
        return Cases.inWeek(999, 2);
    }

    // ---- 11: lend

    private static void promise11_of1And999() {
        ChapterLoan x = owing(1, 0, 0);
        due("the least", x.lend(0, 1), 1);
        due("the most", x.lend(0, 999), 1000);
        due("DEBT", x.ofDebtor(0, 2), 1000);
    }

    private static void promise11_outsideOf1To999() {
        Cases.outside(1, 999, BEYOND, Cases::busy, (x, v) -> x.lend(0, v));
    }

    private static void promise11_upTo9999() {
        due("9998", owing(1, 0, 9997).lend(0, 1), 9998);
        due("9999", owing(1, 0, 9998).lend(0, 1), 9999);
        due("10000", owing(1, 0, 9999).lend(0, 1), 9999);
        due("9999 by 999", owing(1, 0, 9000).lend(0, 999), 9999);
        due("10000 by 999", owing(1, 0, 9001).lend(0, 999), 9999);
        due("10998", owing(1, 0, 9999).lend(0, 999), 9999);
    }

    private static void promise11_theDebtIsHeldToo() {
        ChapterLoan x = owing(1, 0, 9999);
        x.lend(0, 999);
        due("DEBT", x.ofDebtor(0, 2), 9999);
    }

    private static void promise11_noSuchDebtor() {
        Cases.outside(0, 2, BEYOND, Cases::busy, (x, v) -> x.lend(v, 1));
    }

    private static void promise11_brokenIsState() {
        Cases.refused(STATE, Cases::busy, x -> x.lend(1, 1));
        Cases.refused(STATE, Cases::broken, x -> x.lend(0, 999));
    }

    private static void promise11_beyondAheadOfState() {
        Cases.outside(1, 999, BEYOND, Cases::busy, (x, v) -> x.lend(1, v));
    }

    // ---- 12: tells

    private static void promise12_debtAroundWhatIsPaid() {
        due("one more", owing(1, 0, 11).tells(0, 0), 1);
        due("as much", owing(1, 0, 10).tells(0, 0), 0);
        due("one less", owing(1, 0, 9).tells(0, 0), 0);
        due("none", owing(1, 0, 0).tells(0, 0), 0);
    }

    private static void promise12_firstAndLastFact() {
        ChapterLoan x = Cases.town(8, 0);
        due("first", x.tells(0, 0), 90);
        due("last", x.tells(0, 7), 80);
        due("as bits", x.ofDebtor(0, 4), 129);
    }

    private static void promise12_withThisWeek() {
        ChapterLoan x = in999();
        x.tells(0, 1);
        due("WEEK", x.book(0, 0, 1), 999);
        ChapterLoan y = Cases.town(1, 0);
        y.tells(0, 0);
        due("WEEK", y.book(0, 0, 1), 0);
    }

    private static void promise12_noSuchFact() {
        Cases.outside(0, 4, BEYOND, Cases::busy, (x, v) -> x.tells(2, v));
        Cases.refused(BEYOND, () -> Cases.town(0, 0), x -> x.tells(0, 0));
    }

    private static void promise12_noSuchDebtor() {
        Cases.outside(0, 2, BEYOND, Cases::busy, (x, v) -> x.tells(v, 4));
    }

    private static void promise12_brokenIsState() {
        ChapterLoan x = Cases.broken();
        x.fact(0, 0);
        due("it MAY TELL", x.ofDebtor(0, 8), 2);
        due("but it is BROKEN", x.tells(0, 1), STATE);
        Cases.refused(STATE, Cases::broken, y -> y.tells(0, 0));
    }

    private static void promise12_inTheBookAlreadyIsState() {
        Cases.refused(STATE, Cases::busy, x -> x.tells(0, 0));
        Cases.refused(STATE, Cases::busy, x -> x.tells(2, 2));
    }

    private static void promise12_whatClashesIsState() {
        Cases.refused(STATE, Cases::busy, x -> x.tells(0, 3));
    }

    private static void promise12_whatLacksIsState() {
        Cases.refused(STATE, Cases::busy, x -> x.tells(0, 4));
    }

    private static void promise12_whatItMay() {
        due("what another one told", Cases.busy().tells(2, 4), 0);
    }

    private static void promise12_beyondAheadOfState() {
        Cases.refused(BEYOND, Cases::busy, x -> x.tells(1, 5));
        Cases.refused(BEYOND, Cases::busy, x -> x.tells(3, 0));
    }

    // ---- 13: pardon

    private static void promise13_emptyAndFullBook() {
        ChapterLoan none = Cases.town(0, 0);
        none.weeks(1);
        due("none", none.pardon(0), 0);
        ChapterLoan all = Cases.town(8, 0);
        all.weeks(9);
        due("eight", all.pardon(0), 8);
    }

    private static void promise13_debtIs0TheBookIsEmptyItIsNotBroken() {
        ChapterLoan x = Cases.busy();
        due("how many", x.pardon(1), 5);
        int[] want = {3, 5, 0, 0, 0, 0};
        for (int what = 0; what < 6; what++) {
            due("ofDebtor(1, " + what + ")", x.ofDebtor(1, what), want[what]);
        }
        due("its first", x.book(1, 0, 0), Cases.NONE);
        due("another one", x.ofDebtor(0, 2), 470);
    }

    private static void promise13_notBrokenIsState() {
        Cases.refused(STATE, Cases::busy, x -> x.pardon(0));
        Cases.refused(STATE, Cases::busy, x -> x.pardon(2));
    }

    private static void promise13_onceOnly() {
        ChapterLoan x = Cases.broken();
        due("once", x.pardon(0), 1);
        due("twice", x.pardon(0), STATE);
    }

    private static void promise13_noSuchDebtor() {
        Cases.outside(0, 2, BEYOND, Cases::busy, (x, v) -> x.pardon(v));
    }

    // ---- 14: weeks

    private static void promise14_of1And60() {
        ChapterLoan x = Cases.inWeek(0, 1);
        due("one", x.weeks(1), 0);
        due("WEEK", x.count(2), 1);
        due("sixty", x.weeks(60), 0);
        due("WEEK", x.count(2), 61);
    }

    private static void promise14_outsideOf1To60() {
        Cases.outside(1, 60, BEYOND, Cases::busy, (x, v) -> x.weeks(v));
    }

    private static void promise14_upToWeek999() {
        ChapterLoan x = Cases.inWeek(939, 1);
        due("to 999", x.weeks(60), 0);
        due("WEEK", x.count(2), 999);
        ChapterLoan y = Cases.inWeek(998, 1);
        due("to 999", y.weeks(1), 0);
        due("WEEK", y.count(2), 999);
    }

    private static void promise14_weekAbove999IsState() {
        Cases.refused(STATE, () -> Cases.inWeek(940, 1), x -> x.weeks(60));
        Cases.refused(STATE, () -> Cases.inWeek(998, 1), x -> x.weeks(2));
        Cases.refused(STATE, ChaptersBoundaryTest::in999, x -> x.weeks(1));
    }

    private static void promise14_beyondAheadOfState() {
        Cases.outside(1, 60, BEYOND, ChaptersBoundaryTest::in999, (x, v) -> x.weeks(v));
    }

    private static void promise14_noneIsBrokenAndAllAre() {
        ChapterLoan x = Cases.town(1, 0, 10, 20, 59);
        due("none", x.weeks(1), 0);
        due("all", x.weeks(1), 4);
        due("all yet", x.weeks(1), 4);
        due("without DEBTORS", Cases.town(1).weeks(1), 0);
    }

    // ---- 15: loose

    /** A z by which the first draw's rest by 4 and the second one's rest by 50 are these. */
    private static int seedFor(int who, int lent) {
        for (int v = 0; v < 1000000; v++) {
            int one = v * 1103515245 + 12345;
            int two = one * 1103515245 + 12345;
            if ((one >>> 8) % 4 == who && (two >>> 8) % 50 == lent) {
                return v;
            }
        }
        return 0;
    }

    private static ChapterLoan drawn(ChapterLoan x, int who, int lent) {
        x.seed(seedFor(who, lent));
        return x;
    }

    private static void promise15_of1And60() {
        ChapterLoan x = Cases.town(1);
        due("one", x.loose(1), 0);
        due("WEEK", x.count(2), 1);
        due("sixty", x.loose(60), 0);
        due("WEEK", x.count(2), 61);
    }

    private static void promise15_twoDrawsAWeek() {
        ChapterLoan x = Cases.town(1);
        x.loose(60);
        int z = 1;
        for (int i = 0; i < 120; i++) {
            z = z * 1103515245 + 12345;
        }
        due("z", x.count(9), z);
    }

    private static void promise15_outsideOf1To60() {
        Cases.outside(1, 60, BEYOND, Cases::busy, (x, v) -> x.loose(v));
    }

    private static void promise15_upToWeek999() {
        ChapterLoan x = Cases.town(1);
        for (int i = 0; i < 16; i++) {
            x.weeks(60);
        }
        due("to 999", x.loose(39), 0);
        due("WEEK", x.count(2), 999);
    }

    private static void promise15_weekAbove999IsState() {
        Cases.refused(STATE, () -> Cases.inWeek(940, 1), x -> x.loose(60));
        Cases.refused(STATE, () -> Cases.inWeek(998, 1), x -> x.loose(2));
        Cases.refused(STATE, ChaptersBoundaryTest::in999, x -> x.loose(1));
    }

    private static void promise15_beyondAheadOfState() {
        Cases.outside(1, 60, BEYOND, ChaptersBoundaryTest::in999, (x, v) -> x.loose(v));
    }

    private static void promise15_lent0And1And49() {
        int[][] want = {{0, 0, 0}, {1, 0, 1}, {9, 0, 1}, {10, 0, 1}, {11, 1, 1}, {49, 39, 1}};
        for (int[] row : want) {
            ChapterLoan x = drawn(owing(8, 0, 0), 0, row[0]);
            x.loose(1);
            due("DEBT when lent " + row[0], x.ofDebtor(0, 2), row[1]);
            due("BOOK when lent " + row[0], x.ofDebtor(0, 3), row[2]);
        }
    }

    private static void promise15_lentAheadOfTheWeek() {
        ChapterLoan x = drawn(owing(0, 0, 0), 0, 1);
        due("it can't pay it in that WEEK", x.loose(1), 1);
        ChapterLoan y = drawn(owing(0, 0, 0), 0, 0);
        due("nothing is to be paid", y.loose(1), 0);
    }

    private static void promise15_eachOfTheDebtors() {
        for (int who = 0; who < 4; who++) {
            ChapterLoan x = drawn(Cases.town(8, 0, 0, 0, 0), who, 25);
            x.loose(1);
            for (int d = 0; d < 4; d++) {
                due("DEBT of " + d, x.ofDebtor(d, 2), d == who ? 115 : 90);
            }
        }
    }

    private static void promise15_noSuchDebtorIsDrawn() {
        for (int n = 1; n < 4; n++) {
            int[] kms = new int[n];
            ChapterLoan x = drawn(Cases.town(8, kms), n, 25);
            due("none is BROKEN", x.loose(1), 0);
            due("nothing is lent", x.count(4), 90 * n);
        }
    }

    private static void promise15_aBrokenOneIsDrawn() {
        ChapterLoan x = drawn(Cases.broken(), 0, 49);
        due("BROKEN yet", x.loose(1), 1);
        due("nothing is lent", x.ofDebtor(0, 2), 90);
    }

    private static void promise15_debtUpTo9999() {
        int[][] want = {{9949, 9998}, {9950, 9999}, {9951, 9999}, {9999, 9999}};
        for (int[] row : want) {
            ChapterLoan x = drawn(owing(8, 0, row[0]), 0, 49);
            Cases.text(x, 0, "0");
            x.loose(1);
            due("49 more than " + row[0], x.ofDebtor(0, 2), row[1]);
        }
    }

    private static void promise15_debtIsHeldAheadOfPaying() {
        ChapterLoan x = drawn(owing(8, 0, 9999), 0, 49);
        x.loose(1);
        due("9999 less 10", x.ofDebtor(0, 2), 9989);
    }

    private static void promise15_zGoesRound() {
        ChapterLoan x = Cases.town(1);
        x.seed(Cases.MAX);
        x.loose(1);
        int one = Cases.MAX * 1103515245 + 12345;
        due("z", x.count(9), one * 1103515245 + 12345);
    }

    private static void promise15_aDrawIsNeverBelow0() {
        int v = 0;
        while (v * 1103515245 + 12345 >= 0 || ((v * 1103515245 + 12345) >>> 8) % 4 != 2) {
            v++;
        }
        int one = v * 1103515245 + 12345;
        int two = one * 1103515245 + 12345;
        ChapterLoan x = Cases.town(8, 0, 0, 0, 0);
        x.seed(v);
        x.loose(1);
        due("lent", x.ofDebtor(2, 2), 90 + (two >>> 8) % 50);
    }

    private static void promise15_manyWeeks() {
        ChapterLoan x = Cases.town(8, 0, 0, 0, 0);
        ChapterLoan y = Cases.town(8, 0, 0, 0, 0);
        x.loose(7);
        for (int i = 0; i < 7; i++) {
            y.loose(1);
        }
        for (int d = 0; d < 4; d++) {
            due("DEBT of " + d, x.ofDebtor(d, 2), y.ofDebtor(d, 2));
        }
        due("z", x.count(9), y.count(9));
    }

    // ---- 16: then

    private static void promise16_of0Weeks() {
        int[] want = {470, 3, 7, 0, 0, 1};
        for (int what = 2; what <= 7; what++) {
            if (what != 6) {
                int asked = what;
                Cases.onlyThought(want[what - 2], Cases::busy, x -> x.then(0, 0, asked));
            }
        }
    }

    private static void promise16_of1Week() {
        Cases.onlyThought(1, Cases::busy, x -> x.then(1, 0, 5));
        Cases.onlyThought(0, Cases::busy, x -> x.then(1, 2, 2));
        Cases.onlyThought(4, Cases::busy, x -> x.then(1, 2, 3));
        Cases.onlyThought(23, Cases::busy, x -> x.then(1, 2, 4));
        Cases.onlyThought(0, Cases::busy, x -> x.then(1, 2, 7));
    }

    private static void promise16_of60Weeks() {
        Cases.onlyThought(0, Cases::busy, x -> x.then(60, 2, 5));
        Cases.onlyThought(1, Cases::busy, x -> x.then(60, 0, 5));
    }

    private static void promise16_outsideOf0To60() {
        Cases.outside(0, 60, BEYOND, Cases::busy, (x, v) -> x.then(v, 0, 2));
    }

    private static void promise16_noSuchDebtor() {
        Cases.outside(0, 2, BEYOND, Cases::busy, (x, v) -> x.then(1, v, 2));
    }

    private static void promise16_otherWhats() {
        Cases.outside(2, 7, BEYOND, Cases::busy, (x, v) -> x.then(1, 0, v));
        for (int what : new int[] {-1, 0, 6, 9}) {
            Cases.refused(BEYOND, Cases::busy, x -> x.then(1, 0, what));
        }
    }

    private static void promise16_beyond999Too() {
        ChapterLoan x = in999();
        x.lend(0, 500);
        Cases.text(x, 0, "w-900");
        due("WEEK 999", x.then(1, 0, 2), 500 - 99);
        due("WEEK 1000", x.then(2, 0, 2), 500 - 99 - 100);
        due("far beyond", x.then(60, 0, 5), 1);
        due("WEEK as it is", x.count(2), 999);
    }
}
