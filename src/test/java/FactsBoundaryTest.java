/** Promises 1 to 10 at their boundaries: a new object, FACTS, DEBTORS. */
public final class FactsBoundaryTest {
    private static final int BEYOND = Cases.BEYOND;
    private static final int NONE = Cases.NONE;
    private static final int FULL = Cases.FULL;
    private static final int KIND = Cases.KIND;

    private FactsBoundaryTest() {
    }

    public static void main(String[] args) throws IllegalAccessException {
        Cases.run(FactsBoundaryTest.class);
    }

    private static void due(String call, int got, int want) {
        Cases.due(call, got, want);
    }

    /** All there can be: eight FACTS, four DEBTORS. */
    private static ChapterLoan all() {
        return Cases.town(8, 0, 11, 22, 33);
    }

    // ---- 1: a new object

    private static void promise01_nothingIsThere() {
        ChapterLoan x = new ChapterLoan();
        for (int what = 0; what <= 8; what++) {
            due("count(" + what + ")", x.count(what), 0);
        }
    }

    private static void promise01_zIs1() {
        due("count(9)", new ChapterLoan().count(9), 1);
    }

    private static void promise01_noFact0() {
        Cases.refused(BEYOND, ChapterLoan::new, x -> x.ofFact(0, 0));
    }

    private static void promise01_noDebtor0() {
        Cases.refused(BEYOND, ChapterLoan::new, x -> x.ofDebtor(0, 0));
    }

    private static void promise01_noTexts() {
        ChapterLoan x = new ChapterLoan();
        due("PAY", x.law(0, 1, 2, 3), 10);
        due("TRUST", x.law(1, 1, 2, 3), 30 - 10 - 1);
    }

    private static void promise01_noSheets() {
        for (int s = 0; s < 4; s++) {
            int sheet = s;
            Cases.refused(NONE, ChapterLoan::new, x -> x.put(sheet, 0, 0));
        }
    }

    private static void promise01_noImage() {
        Cases.refused(NONE, ChapterLoan::new, x -> x.restore());
    }

    private static void promise01_noTrace() {
        Cases.refused(NONE, ChapterLoan::new, x -> x.trace(0));
    }

    private static void promise01_nothingIsKnown() {
        ChapterLoan x = new ChapterLoan();
        for (int figure = 0; figure < 5; figure++) {
            due("knows " + figure, x.knows(figure, 999), 0);
        }
    }

    private static void promise01_objectsAreApart() {
        ChapterLoan x = Cases.busy();
        due("another one", new ChapterLoan().count(0), 0);
        due("this one", x.count(0), 5);
    }

    // ---- 2: fact

    private static void promise02_numbersFrom0To7() {
        ChapterLoan x = new ChapterLoan();
        for (int i = 0; i < 8; i++) {
            due("fact", x.fact(0, 0), i);
        }
    }

    private static void promise02_theNinthIsFull() {
        Cases.refused(FULL, FactsBoundaryTest::all, x -> x.fact(0, 0));
        Cases.refused(FULL, FactsBoundaryTest::all, x -> x.fact(255, 31));
    }

    private static void promise02_needsOf0() {
        ChapterLoan x = Cases.busy();
        due("fact", x.fact(0, 0), 5);
        due("NEEDS", x.ofFact(5, 0), 0);
    }

    private static void promise02_needsOf255WithoutItself() {
        ChapterLoan x = new ChapterLoan();
        for (int i = 0; i < 8; i++) {
            due("fact", x.fact(255 - (1 << i), 0), i);
            due("NEEDS", x.ofFact(i, 0), 255 - (1 << i));
        }
    }

    private static void promise02_needsOutsideOf0To255() {
        Cases.outside(0, 255, BEYOND, Cases::busy, (x, v) -> x.fact(v, 0));
        Cases.outside(0, 255, BEYOND, ChapterLoan::new, (x, v) -> x.fact(v, 0));
    }

    private static void promise02_needsItself() {
        for (int i = 0; i < 8; i++) {
            int n = i;
            Cases.refused(BEYOND, () -> Cases.town(n, 0), x -> x.fact(1 << n, 0));
            Cases.refused(BEYOND, () -> Cases.town(n, 0), x -> x.fact(255, 0));
        }
    }

    private static void promise02_needsTheOneAheadAndTheOneBehindItself() {
        ChapterLoan x = Cases.town(3);
        due("fact", x.fact(4 + 16, 0), 3);
        due("NEEDS", x.ofFact(3, 0), 20);
    }

    private static void promise02_needsFactsThatComeLater() {
        ChapterLoan x = new ChapterLoan();
        due("fact", x.fact(128, 0), 0);
        due("NEEDS", x.ofFact(0, 0), 128);
    }

    private static void promise02_witnessesOf0And31() {
        ChapterLoan x = Cases.busy();
        due("none", x.fact(0, 0), 5);
        due("WITNESSES", x.ofFact(5, 4), 0);
        due("all", x.fact(0, 31), 6);
        due("WITNESSES", x.ofFact(6, 4), 31);
    }

    private static void promise02_witnessesOutsideOf0To31() {
        Cases.outside(0, 31, BEYOND, Cases::busy, (x, v) -> x.fact(0, v));
    }

    private static void promise02_beyondAheadOfFull() {
        Cases.outside(0, 255, BEYOND, FactsBoundaryTest::all, (x, v) -> x.fact(v, 0));
        Cases.outside(0, 31, BEYOND, FactsBoundaryTest::all, (x, v) -> x.fact(0, v));
    }

    private static void promise02_itNeedsNoExplaining() {
        ChapterLoan x = Cases.busy();
        x.fact(0, 0);
        due("WITHIN", x.ofFact(5, 2), 0);
        due("BY", x.ofFact(5, 3), -1);
    }

    private static void promise02_itClashesWithNone() {
        ChapterLoan x = Cases.busy();
        x.fact(0, 0);
        due("CLASHES", x.ofFact(5, 1), 0);
    }

    // ---- 3: clash

    private static void promise03_theyDidNot() {
        ChapterLoan x = Cases.busy();
        due("clash", x.clash(0, 4, 1), 0);
        due("one way", x.ofFact(0, 1), 16);
        due("the other way", x.ofFact(4, 1), 1);
    }

    private static void promise03_theyDid() {
        ChapterLoan x = Cases.busy();
        due("clash", x.clash(1, 3, 1), 1);
        due("the other way round", x.clash(3, 1, 1), 1);
        due("CLASHES", x.ofFact(1, 1) * 100 + x.ofFact(3, 1), 802);
    }

    private static void promise03_noLonger() {
        ChapterLoan x = Cases.busy();
        due("off, the other way round", x.clash(3, 1, 0), 1);
        due("CLASHES", x.ofFact(1, 1) + x.ofFact(3, 1), 0);
        due("off again", x.clash(3, 1, 0), 0);
    }

    private static void promise03_othersStay() {
        ChapterLoan x = Cases.busy();
        x.clash(1, 4, 1);
        x.clash(2, 3, 1);
        x.clash(1, 3, 0);
        due("1", x.ofFact(1, 1), 16);
        due("2", x.ofFact(2, 1), 8);
        due("3", x.ofFact(3, 1), 4);
        due("4", x.ofFact(4, 1), 2);
    }

    private static void promise03_firstAndLast() {
        ChapterLoan x = all();
        due("clash", x.clash(7, 0, 1), 0);
        due("of the first", x.ofFact(0, 1), 128);
        due("of the last", x.ofFact(7, 1), 1);
    }

    private static void promise03_oneAndTheSame() {
        Cases.refused(BEYOND, Cases::busy, x -> x.clash(0, 0, 1));
        Cases.refused(BEYOND, Cases::busy, x -> x.clash(4, 4, 0));
    }

    private static void promise03_noSuchFact() {
        Cases.outside(0, 4, BEYOND, Cases::busy, (x, v) -> x.clash(v, 0, 1));
        Cases.outside(0, 4, BEYOND, Cases::busy, (x, v) -> x.clash(0, v, 1));
        Cases.outside(0, 7, BEYOND, FactsBoundaryTest::all, (x, v) -> x.clash(1, v, 1));
    }

    private static void promise03_vOutsideOf0And1() {
        Cases.outside(0, 1, BEYOND, Cases::busy, (x, v) -> x.clash(0, 4, v));
        Cases.outside(0, 1, BEYOND, Cases::busy, (x, v) -> x.clash(1, 3, v));
    }

    // ---- 4: explain

    private static void promise04_withinAsItWas() {
        ChapterLoan x = Cases.busy();
        due("none", x.explain(1, 1, 0), 0);
        due("one", x.explain(1, 9, 0), 1);
        due("nine", x.explain(1, 0, 0), 9);
        due("none", x.explain(1, 0, 0), 0);
    }

    private static void promise04_withinOf1And9() {
        ChapterLoan x = Cases.busy();
        x.explain(2, 1, 3);
        due("WITHIN", x.ofFact(2, 2), 1);
        x.explain(2, 9, 3);
        due("WITHIN", x.ofFact(2, 2), 9);
    }

    private static void promise04_withinOutsideOf0To9() {
        Cases.outside(0, 9, BEYOND, Cases::busy, (x, v) -> x.explain(0, v, 2));
    }

    private static void promise04_byTheFirstAndTheLast() {
        ChapterLoan x = Cases.busy();
        x.explain(2, 3, 0);
        due("BY", x.ofFact(2, 3), 0);
        x.explain(2, 3, 4);
        due("BY", x.ofFact(2, 3), 4);
    }

    private static void promise04_byOneThatThereIsNot() {
        Cases.outside(0, 4, BEYOND, Cases::busy, (x, v) -> x.explain(0, 5, v));
        Cases.outside(0, 7, BEYOND, FactsBoundaryTest::all, (x, v) -> x.explain(0, 1, v));
    }

    private static void promise04_byItself() {
        for (int i = 0; i < 5; i++) {
            int fact = i;
            Cases.refused(BEYOND, Cases::busy, x -> x.explain(fact, 1, fact));
        }
    }

    private static void promise04_byNextToItself() {
        ChapterLoan x = Cases.busy();
        due("the one ahead", x.explain(2, 1, 1), 0);
        due("the one behind", x.explain(2, 2, 3), 1);
    }

    private static void promise04_with0ByDoesNotMatter() {
        int[] none = {0, 1, 4, 5, -1, 99, Cases.MIN, Cases.MAX};
        for (int by : none) {
            ChapterLoan x = Cases.busy();
            due("BY " + by, x.explain(0, 0, by), 9);
            due("BY", x.ofFact(0, 3), -1);
            due("WITHIN", x.ofFact(0, 2), 0);
        }
    }

    private static void promise04_noSuchFact() {
        Cases.outside(0, 4, BEYOND, Cases::busy, (x, v) -> x.explain(v, 1, 0));
        Cases.outside(0, 4, BEYOND, Cases::busy, (x, v) -> x.explain(v, 0, 0));
    }

    // ---- 5: ofFact

    private static void promise05_eachOfThem() {
        ChapterLoan x = Cases.busy();
        int[][] want = {{0, 0, 9, 4, 3, 3}, {1, 8, 0, -1, 4, 3}, {0, 0, 0, -1, 8, 3}, {0, 2, 0, -1, 16, 1}, {8, 0, 0, -1, 1, 1}};
        for (int f = 0; f < 5; f++) {
            for (int what = 0; what < 6; what++) {
                due("ofFact(" + f + ", " + what + ")", x.ofFact(f, what), want[f][what]);
            }
        }
    }

    private static void promise05_whatOutsideOf0To5() {
        Cases.outside(0, 5, BEYOND, Cases::busy, (x, v) -> x.ofFact(0, v));
    }

    private static void promise05_noSuchFact() {
        Cases.outside(0, 4, BEYOND, Cases::busy, (x, v) -> x.ofFact(v, 0));
        Cases.outside(0, 7, BEYOND, FactsBoundaryTest::all, (x, v) -> x.ofFact(v, 5));
    }

    private static void promise05_byWithWithin0AndWith1() {
        ChapterLoan x = Cases.busy();
        x.explain(0, 1, 2);
        due("with 1", x.ofFact(0, 3), 2);
        x.explain(0, 0, 2);
        due("with 0", x.ofFact(0, 3), -1);
    }

    private static void promise05_inNoBookAndInAllFour() {
        ChapterLoan x = all();
        for (int d = 0; d < 4; d++) {
            due("in " + d, x.ofFact(3, 5), d);
            x.tells(d, 3);
        }
        due("in all", x.ofFact(3, 5), 4);
        due("another one", x.ofFact(4, 5), 0);
    }

    // ---- 6: debtor

    private static void promise06_numbersFrom0To3() {
        ChapterLoan x = new ChapterLoan();
        for (int i = 0; i < 4; i++) {
            due("debtor", x.debtor(0, 0), i);
        }
    }

    private static void promise06_theFifthIsFull() {
        Cases.refused(FULL, FactsBoundaryTest::all, x -> x.debtor(0, 0));
        Cases.refused(FULL, FactsBoundaryTest::all, x -> x.debtor(69, 9999));
    }

    private static void promise06_kmAtTheEndsOfKinds() {
        int[][] want = {{0, 0, 0}, {9, 0, 9}, {10, 1, 0}, {59, 5, 9}, {60, 6, 0}, {69, 6, 9}};
        for (int[] row : want) {
            ChapterLoan x = new ChapterLoan();
            due("debtor", x.debtor(row[0], 1), 0);
            due("KIND of " + row[0], x.ofDebtor(0, 0), row[1]);
            due("m of " + row[0], x.ofDebtor(0, 1), row[2]);
        }
    }

    private static void promise06_kmOutsideOf0To69() {
        Cases.outside(0, 69, BEYOND, Cases::busy, (x, v) -> x.debtor(v, 0));
    }

    private static void promise06_debtOf0And9999() {
        ChapterLoan x = new ChapterLoan();
        x.debtor(0, 0);
        x.debtor(0, 9999);
        due("the least", x.ofDebtor(0, 2), 0);
        due("the most", x.ofDebtor(1, 2), 9999);
    }

    private static void promise06_debtOutsideOf0To9999() {
        Cases.outside(0, 9999, BEYOND, Cases::busy, (x, v) -> x.debtor(0, v));
    }

    private static void promise06_beyondAheadOfFull() {
        Cases.outside(0, 69, BEYOND, FactsBoundaryTest::all, (x, v) -> x.debtor(v, 0));
        Cases.outside(0, 9999, BEYOND, FactsBoundaryTest::all, (x, v) -> x.debtor(0, v));
    }

    private static void promise06_itsBookIsEmptyAndItIsNotBroken() {
        ChapterLoan x = Cases.busy();
        x.debtor(69, 9999);
        due("how many", x.ofDebtor(3, 3), 0);
        due("as bits", x.ofDebtor(3, 4), 0);
        due("BROKEN", x.ofDebtor(3, 5), 0);
    }

    // ---- 7: ofDebtor

    private static void promise07_eachOfThem() {
        ChapterLoan x = Cases.busy();
        int[][] want = {
            {0, 4, 470, 3, 7, 0, 1, 1, 0, 1},
            {3, 5, 50, 5, 31, 1, 2, 0, 0, 5},
            {1, 0, 5, 3, 7, 0, 1, 1, 16, 1},
        };
        for (int d = 0; d < 3; d++) {
            for (int what = 0; what < 10; what++) {
                due("ofDebtor(" + d + ", " + what + ")", x.ofDebtor(d, what), want[d][what]);
            }
        }
    }

    private static void promise07_whatOutsideOf0To9() {
        Cases.outside(0, 9, BEYOND, Cases::busy, (x, v) -> x.ofDebtor(0, v));
    }

    private static void promise07_noSuchDebtor() {
        Cases.outside(0, 2, BEYOND, Cases::busy, (x, v) -> x.ofDebtor(v, 0));
        Cases.outside(0, 3, BEYOND, FactsBoundaryTest::all, (x, v) -> x.ofDebtor(v, 9));
    }

    private static void promise07_withoutAnyFact() {
        ChapterLoan x = Cases.town(0, 0);
        due("MAY TELL", x.ofDebtor(0, 8), 0);
        due("OPEN", x.ofDebtor(0, 7), 0);
        due("as bits", x.ofDebtor(0, 4), 0);
    }

    private static void promise07_withAllEightTold() {
        ChapterLoan x = Cases.town(8, 0);
        due("MAY TELL", x.ofDebtor(0, 8), 255);
        for (int f = 0; f < 8; f++) {
            x.tells(0, f);
        }
        due("how many", x.ofDebtor(0, 3), 8);
        due("as bits", x.ofDebtor(0, 4), 255);
        due("MAY TELL", x.ofDebtor(0, 8), 0);
    }

    private static void promise07_brokenIs1() {
        due("BROKEN", Cases.broken().ofDebtor(0, 5), 1);
        due("not", Cases.town(1, 0).ofDebtor(0, 5), 0);
    }

    // ---- 8: book

    private static void promise08_theFirstAndTheLast() {
        ChapterLoan x = Cases.busy();
        due("the first", x.book(1, 0, 0), 0);
        due("its WEEK", x.book(1, 0, 1), 0);
        due("the last", x.book(1, 4, 0), 4);
        due("its WEEK", x.book(1, 4, 1), 2);
    }

    private static void promise08_inTheOrderInWhichTheyWereTold() {
        ChapterLoan x = Cases.town(8, 0);
        for (int f = 7; f >= 0; f--) {
            x.tells(0, f);
        }
        for (int i = 0; i < 8; i++) {
            due("at " + i, x.book(0, i, 0), 7 - i);
        }
    }

    private static void promise08_noneSuch() {
        Cases.outside(0, 2, NONE, Cases::busy, (x, v) -> x.book(0, v, 0));
        Cases.outside(0, 4, NONE, Cases::busy, (x, v) -> x.book(1, v, 1));
    }

    private static void promise08_anEmptyBook() {
        Cases.refused(NONE, FactsBoundaryTest::all, x -> x.book(0, 0, 0));
    }

    private static void promise08_whatOutsideOf0And1() {
        Cases.outside(0, 1, BEYOND, Cases::busy, (x, v) -> x.book(0, 0, v));
    }

    private static void promise08_noSuchDebtor() {
        Cases.outside(0, 2, BEYOND, Cases::busy, (x, v) -> x.book(v, 0, 0));
    }

    private static void promise08_beyondAheadOfNone() {
        Cases.refused(BEYOND, Cases::busy, x -> x.book(0, 3, 2));
        Cases.refused(BEYOND, Cases::busy, x -> x.book(3, -1, 0));
    }

    private static void promise08_inWeek999() {
        ChapterLoan x = Cases.inWeek(999, 1);
        x.tells(0, 0);
        due("its WEEK", x.book(0, 0, 1), 999);
    }

    // ---- 9: become

    private static void promise09_kmAtTheEndsOfKinds() {
        ChapterLoan x = Cases.busy();
        int[][] want = {{0, 3, 0, 0}, {69, 0, 6, 9}, {9, 6, 0, 9}, {10, 0, 1, 0}, {60, 1, 6, 0}};
        for (int[] row : want) {
            due("was", x.become(1, row[0]), row[1]);
            due("KIND of " + row[0], x.ofDebtor(1, 0), row[2]);
            due("m of " + row[0], x.ofDebtor(1, 1), row[3]);
        }
    }

    private static void promise09_kmOutsideOf0To69() {
        Cases.outside(0, 69, BEYOND, Cases::busy, (x, v) -> x.become(0, v));
    }

    private static void promise09_noSuchDebtor() {
        Cases.outside(0, 2, BEYOND, Cases::busy, (x, v) -> x.become(v, 0));
    }

    private static void promise09_theRestStays() {
        ChapterLoan x = Cases.busy();
        x.become(1, 64);
        due("DEBT", x.ofDebtor(1, 2), 50);
        due("BOOK", x.ofDebtor(1, 4), 31);
        due("BROKEN", x.ofDebtor(1, 5), 1);
    }

    private static void promise09_theSameAgain() {
        ChapterLoan x = Cases.busy();
        due("was", x.become(0, 4), 0);
        due("m", x.ofDebtor(0, 1), 4);
    }

    // ---- 10: as

    private static void promise10_itsOwnKind() {
        for (int kind = 0; kind < 7; kind++) {
            due("as " + kind, Cases.town(0, 10 * kind + 9).as(0, kind), 9);
            due("as " + kind, Cases.town(0, 10 * kind).as(0, kind), 0);
        }
    }

    private static void promise10_theKindAboveItAndTheOneAboveThat() {
        int[] above = {-1, 0, 0, 0, 1, 2, 3};
        for (int kind = 1; kind < 7; kind++) {
            ChapterLoan x = Cases.town(0, 10 * kind + 7);
            due(kind + " as " + above[kind], x.as(0, above[kind]), 7);
            due(kind + " as 0", x.as(0, 0), 7);
        }
    }

    private static void promise10_notOfThatKind() {
        int[] above = {-1, 0, 0, 0, 1, 2, 3};
        for (int kind = 0; kind < 7; kind++) {
            for (int asked = 1; asked < 7; asked++) {
                if (asked != kind && asked != above[kind]) {
                    int km = 10 * kind;
                    int as = asked;
                    Cases.refused(KIND, () -> Cases.town(0, km), x -> x.as(0, as));
                }
            }
        }
    }

    private static void promise10_kindOutsideOf0To6() {
        Cases.outside(0, 6, BEYOND, Cases::busy, (x, v) -> x.as(0, v));
    }

    private static void promise10_noSuchDebtor() {
        Cases.outside(0, 2, BEYOND, Cases::busy, (x, v) -> x.as(v, 0));
    }

    private static void promise10_beyondAheadOfKind() {
        Cases.refused(BEYOND, Cases::busy, x -> x.as(3, 6));
        Cases.refused(BEYOND, Cases::busy, x -> x.as(0, 7));
    }
}
