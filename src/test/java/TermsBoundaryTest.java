/** The ERRORS and points 1, 3 and 4 of the terms at their boundaries; point 2 is in TextsBoundaryTest. */
public final class TermsBoundaryTest {
    private static final int BEYOND = Cases.BEYOND;
    private static final int NONE = Cases.NONE;
    private static final int STATE = Cases.STATE;

    private TermsBoundaryTest() {
    }

    public static void main(String[] args) throws IllegalAccessException {
        Cases.run(TermsBoundaryTest.class);
    }

    private static void due(String call, int got, int want) {
        Cases.due(call, got, want);
    }

    // ---- the ERRORS

    private static void point0_theErrorsByNumbers() {
        ChapterLoan x = Cases.town(1, 0);
        due("BEYOND", x.count(-1), -1000000001);
        due("NONE", x.trace(0), -1000000002);
        due("STATE", x.pardon(0), -1000000003);
        for (int i = 0; i < 20; i++) {
            x.tell(0);
        }
        due("FULL", x.tell(0), -1000000004);
        due("KIND", x.as(0, 1), -1000000005);
    }

    private static void point0_quotientsAreCut() {
        int[][] want = {{15, 93}, {16, 92}, {1, 100}, {0, 100}, {999, 0}};
        for (int[] row : want) {
            ChapterLoan x = Cases.town(1, 10);
            Cases.text(x, 0, Integer.toString(row[0]));
            due("half of " + row[0], x.tells(0, 0), row[1]);
        }
    }

    // ---- point 1: FACTS that it MAY TELL

    private static int mayTell(ChapterLoan x, int km) {
        x.become(0, km);
        return x.ofDebtor(0, 8);
    }

    /** FACTS 0, 1, 2 LACK one, two, three; 3 LACKS none. */
    private static ChapterLoan lacking() {
        ChapterLoan x = new ChapterLoan();
        x.fact(16, 0);
        x.fact(48, 0);
        x.fact(112, 0);
        x.fact(0, 0);
        x.debtor(0, 0);
        return x;
    }

    private static void point1_lacksNone() {
        for (int km : new int[] {0, 2, 12, 20, 32, 42, 60, 61}) {
            due("of " + km, mayTell(lacking(), km), 8);
        }
    }

    private static void point1_dreamerLacksMModulo3AtMost() {
        int[] want = {8, 9, 11, 8, 9, 11, 8, 9, 11, 8};
        for (int m = 0; m < 10; m++) {
            due("DREAMER of m " + m, mayTell(lacking(), 20 + m), want[m]);
        }
    }

    private static void point1_seerAsDreamerButNotFactM() {
        int[] want = {8, 9, 11, 0, 9, 11, 8, 9, 11, 8};
        for (int m = 0; m < 10; m++) {
            due("SEER of m " + m, mayTell(lacking(), 50 + m), want[m]);
        }
    }

    private static void point1_seerOfMWithAllEight() {
        for (int m = 0; m < 10; m++) {
            due("SEER of m " + m, mayTell(Cases.town(8, 0), 50 + m), m < 8 ? 255 - (1 << m) : 255);
        }
    }

    private static void point1_needsThatAreInTheBookAreNotLacked() {
        ChapterLoan x = lacking();
        for (int f = 4; f < 7; f++) {
            x.fact(0, 0);
        }
        int[] want = {8 + 112, 1 + 8 + 96, 1 + 2 + 8 + 64, 1 + 2 + 4 + 8};
        for (int told = 0; told < 4; told++) {
            due("behind " + told, mayTell(x, 0), want[told]);
            x.tells(0, 4 + told);
        }
    }

    private static void point1_needsInAnotherOnesBookAreLacked() {
        ChapterLoan x = new ChapterLoan();
        x.fact(2, 0);
        x.fact(0, 0);
        x.debtor(0, 0);
        x.debtor(0, 0);
        x.tells(1, 1);
        due("MAY TELL", x.ofDebtor(0, 8), 2);
        due("the other one", x.ofDebtor(1, 8), 1);
    }

    private static void point1_notWhatIsInTheBookForEachKind() {
        for (int kind = 0; kind < 7; kind++) {
            for (int m = 0; m < 10; m += 9) {
                ChapterLoan x = Cases.town(2, 0, 0);
                x.tells(0, 1);
                x.tells(1, 1);
                int want = kind == 5 && m == 0 ? 0 : 1;
                due("KIND " + kind + ", m " + m, mayTell(x, 10 * kind + m), want);
                due("it is STATE", x.tells(0, 1), STATE);
            }
        }
    }

    private static void point1_goesWithForEachKind() {
        int[][] want = {
            {9, 0}, {19, 0}, {29, 0}, {30, 1}, {39, 1}, {49, 0}, {59, 0}, {60, 0}, {61, 1}, {68, 0}, {69, 1},
        };
        for (int[] row : want) {
            ChapterLoan x = Cases.town(2, 0);
            x.clash(1, 0, 1);
            x.tells(0, 1);
            due("of " + row[0], mayTell(x, row[0]), row[1]);
            x.clash(0, 1, 0);
            due("of " + row[0] + " when they don't", mayTell(x, row[0]), 1);
        }
    }

    private static void point1_clashesOutsideOfTheBookDoNotMatter() {
        ChapterLoan x = Cases.town(3, 0, 0);
        x.clash(0, 1, 1);
        x.tells(1, 1);
        due("MAY TELL", x.ofDebtor(0, 8), 7);
    }

    private static void point1_ghostAndSaintLackNone() {
        for (int km : new int[] {30, 39, 60, 61, 69}) {
            due("of " + km, mayTell(lacking(), km), 8);
        }
    }

    /** DEBTOR 1 told FACT 0, which LACKS one, by dreaming. */
    private static ChapterLoan dreamt() {
        ChapterLoan x = Cases.town(0, 0, 21);
        x.fact(4, 0);
        x.fact(0, 0);
        x.tells(1, 0);
        return x;
    }

    private static void point1_plagiaristWhatIsInAnotherOnesBook() {
        int[][] want = {{0, 2}, {10, 3}, {19, 3}, {20, 2}, {30, 2}, {40, 3}, {49, 3}, {56, 2}, {57, 3}, {61, 2}};
        for (int[] row : want) {
            due("of " + row[0], mayTell(dreamt(), row[0]), row[1]);
        }
    }

    private static void point1_plagiaristOnlyIfItGoesWith() {
        for (int km : new int[] {10, 40, 41}) {
            ChapterLoan x = dreamt();
            x.clash(0, 1, 1);
            x.tells(0, 1);
            due("of " + km, mayTell(x, km), 0);
            x.clash(0, 1, 0);
            due("of " + km + " when they don't", mayTell(x, km), 1);
        }
    }

    private static void point1_plagiaristOfABookThatIsEmptyNow() {
        ChapterLoan x = Cases.town(0, 10, 21);
        x.fact(4, 0);
        x.weeks(2);
        due("1 told 0", x.ofDebtor(1, 4), 1);
        due("from a BROKEN one, too", x.ofDebtor(0, 8), 1);
        x.pardon(1);
        due("pardoned", x.ofDebtor(0, 8), 0);
    }

    private static void point1_mayTellWithoutLookingAtBroken() {
        ChapterLoan x = Cases.broken();
        x.fact(0, 0);
        due("MAY TELL", x.ofDebtor(0, 8), 2);
    }

    // ---- point 1: DUE, PAYS

    private static void point1_dueOfEachKind() {
        int[] want = {1, 1, 1, 2, 1, 1, 2};
        for (int kind = 0; kind < 7; kind++) {
            due("KIND " + kind, Cases.town(0, 10 * kind).ofDebtor(0, 6), want[kind]);
        }
    }

    private static void point1_dueByMModulo2() {
        for (int m = 0; m < 10; m++) {
            due("TWIN of m " + m, Cases.town(0, 40 + m).ofDebtor(0, 6), 1 + m % 2);
            due("SAINT of m " + m, Cases.town(0, 60 + m).ofDebtor(0, 6), 2 - m % 2);
            due("GHOST of m " + m, Cases.town(0, 30 + m).ofDebtor(0, 6), 2);
            due("DEBTOR of m " + m, Cases.town(0, m).ofDebtor(0, 6), 1);
        }
    }

    private static void point1_dueInAWeek() {
        int[][] want = {{9, 1}, {19, 1}, {29, 1}, {39, 2}, {40, 1}, {41, 2}, {59, 1}, {60, 2}, {61, 1}};
        for (int[] row : want) {
            ChapterLoan x = Cases.town(8, row[0]);
            x.weeks(1);
            due("of " + row[0], x.ofDebtor(0, 3), row[1]);
        }
    }

    private static void point1_paysOfEachKind() {
        int[] want = {15, 7, 15, 15, 7, 30, 15};
        for (int kind = 0; kind < 7; kind++) {
            ChapterLoan x = Cases.town(1, 10 * kind + 9);
            Cases.text(x, 0, "15");
            due("KIND " + kind, x.tells(0, 0), 100 - want[kind]);
        }
    }

    private static void point1_seerPaysTwiceWhatIsHeld() {
        ChapterLoan x = Cases.town(1);
        x.debtor(59, 5000);
        Cases.text(x, 0, "9999");
        due("twice 999", x.tells(0, 0), 5000 - 1998);
    }

    private static void point1_paysByTheDebtAhead() {
        ChapterLoan x = Cases.town(2, 0);
        Cases.text(x, 0, "d");
        due("all of it", x.tells(0, 0), 0);
        ChapterLoan y = Cases.town(2);
        y.debtor(0, 1000);
        Cases.text(y, 0, "d");
        due("999 of it", y.tells(0, 0), 1);
    }

    // ---- point 1: OPEN, OVERDUE

    private static void point1_openWithWithin0And1() {
        ChapterLoan x = Cases.town(2, 0);
        x.tells(0, 0);
        due("with 0", x.ofDebtor(0, 7), 0);
        x.explain(0, 1, 1);
        due("with 1", x.ofDebtor(0, 7), 1);
        x.explain(0, 0, 1);
        due("with 0 again", x.ofDebtor(0, 7), 0);
    }

    private static void point1_notOpenBeforeItIsTold() {
        ChapterLoan x = Cases.town(2, 0);
        x.explain(0, 1, 1);
        due("not told", x.ofDebtor(0, 7), 0);
        x.tells(0, 0);
        due("told", x.ofDebtor(0, 7), 1);
        x.tells(0, 1);
        due("explained", x.ofDebtor(0, 7), 0);
    }

    private static void point1_explainedAheadOfIt() {
        ChapterLoan x = Cases.town(2, 0);
        x.explain(0, 1, 1);
        x.tells(0, 1);
        x.tells(0, 0);
        due("OPEN", x.ofDebtor(0, 7), 0);
    }

    private static void point1_explainedInAnotherOnesBookIsOpen() {
        ChapterLoan x = Cases.town(2, 0, 0);
        x.explain(0, 1, 1);
        x.tells(0, 0);
        x.tells(1, 1);
        due("OPEN", x.ofDebtor(0, 7), 1);
        due("of the other one", x.ofDebtor(1, 7), 0);
    }

    private static void point1_allEightOpenButOne() {
        ChapterLoan x = Cases.town(8, 0);
        for (int f = 0; f < 7; f++) {
            x.explain(f, 9, 7);
            x.tells(0, f);
        }
        due("OPEN", x.ofDebtor(0, 7), 7);
        x.tells(0, 7);
        due("none", x.ofDebtor(0, 7), 0);
    }

    /** DEBTOR 0 told FACT 0 in WEEK 0, to be explained within some WEEKS; it owes again from a WEEK on. */
    private static ChapterLoan owesFrom(int week, int within) {
        ChapterLoan x = Cases.town(8);
        x.debtor(0, 0);
        x.explain(0, within, 7);
        x.tells(0, 0);
        if (week > 0) {
            x.weeks(week);
        }
        x.lend(0, 500);
        return x;
    }

    private static void point1_overdueInTheWeekAndWithinOrLater() {
        for (int within = 1; within <= 9; within++) {
            for (int week = 0; week < 12; week++) {
                int want = week >= within ? 1 : 0;
                due("WITHIN " + within + ", WEEK " + week, owesFrom(week, within).weeks(1), want);
            }
        }
    }

    private static void point1_neverOverdueWithWithin0() {
        due("WITHIN 0", owesFrom(60, 0).weeks(1), 0);
    }

    private static void point1_explainedInTheWeekInWhichItWouldBeOverdue() {
        ChapterLoan x = Cases.town(2, 0);
        x.explain(0, 1, 1);
        due("explained", x.weeks(2), 0);
        ChapterLoan y = Cases.town(3, 0);
        y.explain(0, 1, 2);
        due("not explained", y.weeks(2), 1);
    }

    // ---- point 1: a WEEK

    private static ChapterLoan owing(int n, int km, int debt) {
        ChapterLoan x = Cases.town(n);
        x.debtor(km, debt);
        return x;
    }

    private static void week(ChapterLoan x, int debt, int told, int broken) {
        due("BROKEN behind a WEEK", x.weeks(1), broken);
        due("DEBT", x.ofDebtor(0, 2), debt);
        due("BOOK", x.ofDebtor(0, 3), told);
    }

    private static void point1_weekWithADebtOf0And1() {
        week(owing(2, 0, 0), 0, 0, 0);
        week(owing(2, 0, 1), 0, 1, 0);
        week(owing(0, 0, 0), 0, 0, 0);
        week(owing(0, 0, 1), 1, 0, 1);
    }

    private static void point1_weekAsLongAsTheDebtIsAbove0() {
        week(owing(3, 30, 9), 0, 1, 0);
        week(owing(3, 30, 10), 0, 1, 0);
        week(owing(3, 30, 11), 0, 2, 0);
        week(owing(3, 30, 20), 0, 2, 0);
        week(owing(3, 30, 21), 1, 2, 0);
    }

    private static void point1_weekTheSecondOfTwoLacks() {
        week(owing(1, 30, 10), 0, 1, 0);
        week(owing(1, 30, 11), 1, 1, 1);
    }

    private static void point1_weekPaysNothing() {
        ChapterLoan x = owing(2, 0, 1);
        Cases.text(x, 0, "0");
        week(x, 1, 1, 0);
        week(x, 1, 2, 0);
        week(x, 1, 2, 1);
    }

    private static void point1_weekTheLeastFact() {
        ChapterLoan x = owing(3, 50, 100);
        x.weeks(1);
        due("not 0, but 1", x.book(0, 0, 0), 1);
        ChapterLoan y = owing(8, 0, 100);
        y.tells(0, 0);
        y.tells(0, 2);
        y.weeks(1);
        due("1", y.book(0, 2, 0), 1);
        y.weeks(1);
        due("3", y.book(0, 3, 0), 3);
    }

    private static void point1_weekInWhichItIsTold() {
        ChapterLoan x = owing(8, 30, 100);
        x.weeks(2);
        for (int i = 0; i < 4; i++) {
            due("WEEK at " + i, x.book(0, i, 1), i / 2);
        }
    }

    private static void point1_weekTheLastFactIsTold() {
        ChapterLoan x = owing(8, 0, 100);
        due("none is BROKEN", x.weeks(8), 0);
        due("all", x.ofDebtor(0, 4), 255);
        due("BROKEN", x.weeks(1), 1);
    }

    private static void point1_weekABrokenOneIsLeftAlone() {
        ChapterLoan x = Cases.broken();
        x.fact(0, 0);
        due("BROKEN yet", x.weeks(3), 1);
        due("DEBT", x.ofDebtor(0, 2), 90);
        due("BOOK", x.ofDebtor(0, 3), 1);
        x.pardon(0);
        x.lend(0, 15);
        due("pardoned", x.weeks(2), 0);
        due("BOOK", x.ofDebtor(0, 4), 3);
    }

    private static void point1_weekOverdueThoughTheDebtIsGone() {
        ChapterLoan x = owing(3, 0, 20);
        x.explain(0, 1, 2);
        week(x, 10, 1, 0);
        week(x, 0, 2, 1);
    }

    private static void point1_weekOverdueWithoutADebt() {
        ChapterLoan x = owing(3, 0, 10);
        x.explain(0, 1, 2);
        week(x, 0, 1, 0);
        week(x, 0, 1, 0);
        week(x, 0, 1, 0);
    }

    private static void point1_weekByNumbers() {
        ChapterLoan x = Cases.town(0, 10, 21);
        x.fact(4, 0);
        x.weeks(1);
        due("0 is ahead of 1, and finds none", x.ofDebtor(0, 5), 1);
        ChapterLoan y = Cases.town(0, 21, 10);
        y.fact(4, 0);
        y.weeks(1);
        due("1 is behind 0, and finds what it told", y.ofDebtor(1, 4), 1);
    }

    private static void point1_weekIs1More() {
        ChapterLoan x = new ChapterLoan();
        due("at first", x.count(2), 0);
        x.weeks(1);
        due("behind one", x.count(2), 1);
    }

    private static void point1_weekByWeekOrAllAtOnce() {
        ChapterLoan x = Cases.busy();
        ChapterLoan y = Cases.busy();
        x.weeks(5);
        for (int i = 0; i < 5; i++) {
            y.weeks(1);
        }
        for (int d = 0; d < 3; d++) {
            for (int what = 0; what < 10; what++) {
                due("ofDebtor(" + d + ", " + what + ")", x.ofDebtor(d, what), y.ofDebtor(d, what));
            }
        }
    }

    // ---- points 3 and 4

    private static void point3_servedAndClosedAreOnlyThought() {
        Cases.onlyThought(8, () -> Cases.town(8, 0), x -> x.served(0, -1));
        Cases.onlyThought(1, Cases::busy, x -> x.closed(2, -1));
    }

    private static void point3_brokenByThought() {
        Cases.onlyThought(1, Cases::busy, x -> x.then(60, 0, 5));
        Cases.onlyThought(1, Cases::busy, x -> x.rated(2, 2, 0));
    }

    private static void point3_zIs1AtFirst() {
        due("z", new ChapterLoan().count(9), 1);
        due("z", new ChapterLoan().seed(5), 1);
    }

    private static void point4_sheetsAreMissingAtFirst() {
        ChapterLoan x = new ChapterLoan();
        x.debtor(0, 0);
        for (int s = 0; s < 4; s++) {
            due("reads", x.reads(s), NONE);
            due("judge", x.judge(s, 0), NONE);
            due("explained", x.explained(0, s), NONE);
            due("move", x.move(s, 0, s, 0, 0), NONE);
        }
        due("a fifth", x.reads(4), BEYOND);
    }

    private static void point4_sheetsAreApart() {
        ChapterLoan x = Cases.town(4, 0);
        for (int f = 0; f < 4; f++) {
            x.tells(0, f);
        }
        for (int s = 0; s < 4; s++) {
            Cases.sheet(x, s, 8, 0, 1, 2, 3);
            x.put(s, s, 9);
        }
        for (int s = 0; s < 4; s++) {
            due("SHEET " + s, x.judge(s, 0), s);
        }
    }
}
