/** Promises 30 to 43 at their boundaries: draws, voices, SHEETS, IMAGES, what is told. */
public final class RestBoundaryTest {
    private static final int BEYOND = Cases.BEYOND;
    private static final int NONE = Cases.NONE;
    private static final int STATE = Cases.STATE;
    private static final int FULL = Cases.FULL;
    private static final int KIND = Cases.KIND;
    private static final int MIN = Cases.MIN;
    private static final int MAX = Cases.MAX;

    private RestBoundaryTest() {
    }

    public static void main(String[] args) throws IllegalAccessException {
        Cases.run(RestBoundaryTest.class);
    }

    private static void due(String call, int got, int want) {
        Cases.due(call, got, want);
    }

    private static int allTold(ChapterLoan x) {
        int sum = 0;
        for (int k = 1; k <= 5; k++) {
            sum += x.told(k);
        }
        return sum;
    }

    /** The BOOK of DEBTOR 0 is FACTS 0 .. n-1, by which judge() tells the numbers of a SHEET. */
    private static ChapterLoan told(int n) {
        ChapterLoan x = Cases.town(8, 0);
        for (int f = 0; f < n; f++) {
            x.tells(0, f);
        }
        return x;
    }

    // ---- 30: seed

    private static void promise30_anyNumber() {
        ChapterLoan x = new ChapterLoan();
        int[] all = {MIN, MAX, 0, -1, 1, BEYOND, NONE, STATE, FULL, KIND};
        int was = 1;
        for (int v : all) {
            due("seed(" + v + ")", x.seed(v), was);
            was = v;
        }
        due("z", x.count(9), KIND);
        due("no ERROR", allTold(x), 0);
    }

    private static void promise30_drawsGoOnFromIt() {
        ChapterLoan x = Cases.town(1);
        for (int v : new int[] {0, -1, MIN, MAX}) {
            x.seed(v);
            x.loose(1);
            due("z behind " + v, x.count(9), (v * 1103515245 + 12345) * 1103515245 + 12345);
        }
    }

    // ---- 31: voice

    private static void promise31_actOf0And3() {
        ChapterLoan x = Cases.busy();
        due("0", x.voice(0, 0, 5), 5);
        due("3", x.voice(0, 3, 5), 10 ^ 1);
    }

    private static void promise31_actOutsideOf0To3() {
        Cases.outside(0, 3, BEYOND, Cases::busy, (x, v) -> x.voice(0, v, 1));
    }

    private static void promise31_noSuchDebtor() {
        Cases.outside(0, 2, BEYOND, Cases::busy, (x, v) -> x.voice(v, 0, 1));
    }

    private static void promise31_anAnswerLikeAnErrorIsNone() {
        ChapterLoan x = Cases.town(0, 0);
        for (int v : new int[] {BEYOND, NONE, STATE, FULL, KIND}) {
            due("owes", x.voice(0, 0, v), v);
        }
        due("ERRORS", allTold(x), 0);
    }

    private static void promise31_intsThatGoRound() {
        ChapterLoan x = Cases.town(0, 0, 9);
        due("owes past the most", x.voice(1, 0, MAX), MIN);
        due("writes", x.voice(0, 1, MAX), -2);
        due("writes", x.voice(0, 1, MIN), 0);
        due("reads past the least", x.voice(1, 2, MIN), MAX - 8);
        due("reads", x.voice(1, 2, MIN + 9), MIN);
        x.become(0, 20);
        due("three times", x.voice(0, 0, MAX), MAX - 2);
        x.become(0, 30);
        due("the least, negated", x.voice(0, 2, MIN), MIN);
        x.become(0, 40);
        due("writes(x + 1)", x.voice(0, 1, MAX), -1);
    }

    private static void promise31_withNumbers0And3AndM0And9() {
        ChapterLoan x = Cases.town(0, 0, 0, 0, 9);
        due("n 0", x.voice(0, 0, 1), 1);
        due("n 3", x.voice(3, 0, 1), 4);
        due("m 0", x.voice(0, 2, 1), 1);
        due("m 9", x.voice(3, 2, 1), -8);
    }

    private static void promise31_theBodyOfItsKindOrOfTheNextAbove() {
        ChapterLoan x = Cases.town(0, 0, 0);
        int[][] want = {
            {0, 6, 12, 3, 12 ^ 3}, {1, 6, 12 + 1, 3, 13 ^ 3}, {2, 18, 36, 3, 36 ^ 3}, {3, 6, 12, -3, 12 ^ -3},
            {4, 6, 14 + 1, 3, 15 ^ 3}, {5, 18, 36, 3, (36 ^ 3) - 9}, {6, 6, 12, -3 ^ 1, 12 - (12 ^ (-3 ^ 1))},
        };
        for (int[] row : want) {
            x.become(1, 10 * row[0] + 2);
            for (int act = 0; act < 4; act++) {
                due("KIND " + row[0] + ", act " + act, x.voice(1, act, 5), row[1 + act]);
            }
        }
    }

    private static void promise31_brokenToo() {
        due("owes", Cases.broken().voice(0, 0, 7), 7);
    }

    // ---- 32: trace

    private static void promise32_theFirstAndTheLast() {
        ChapterLoan x = Cases.busy();
        int[] want = {13, 11, 10, 12};
        for (int i = 0; i < 4; i++) {
            due("trace(" + i + ")", x.trace(i), want[i]);
        }
    }

    private static void promise32_noneSuch() {
        Cases.outside(0, 3, NONE, Cases::busy, (x, v) -> x.trace(v));
        Cases.outside(0, 39, NONE, Cases::busy, (x, v) -> x.trace(v));
    }

    private static void promise32_oneBodyAlone() {
        ChapterLoan x = Cases.busy();
        x.voice(0, 0, 5);
        due("the one", x.trace(0), 10);
        due("none behind it", x.trace(1), NONE);
        due("how many", x.count(8), 1);
    }

    private static void promise32_theLatestVoiceThatWasNotRefused() {
        ChapterLoan x = Cases.busy();
        x.voice(0, 4, 5);
        x.voice(3, 0, 5);
        due("of the one ahead", x.trace(3), 12);
        due("how many", x.count(8), 4);
    }

    private static void promise32_whatStandsLeftFirst() {
        int[][] want = {
            {0, 13, 11, 10, 12}, {1, 13, 20, 11, 10, 12, 12}, {2, 13, 11, 30, 10, 12}, {3, 13, 11, 10, 40, 12},
            {4, 13, 50, 20, 11, 10, 12, 12}, {5, 60, 13, 11, 30, 10, 12, 30, 10}, {6, 71, 11, 10, 13, 11, 10, 70, 40, 12},
        };
        for (int[] row : want) {
            ChapterLoan x = Cases.town(0, 10 * row[0]);
            x.voice(0, 3, 1);
            for (int i = 1; i < row.length; i++) {
                due("KIND " + row[0] + " at " + (i - 1), x.trace(i - 1), row[i]);
            }
            due("KIND " + row[0] + ": none behind them", x.trace(row.length - 1), NONE);
        }
    }

    // ---- 33: sheet

    private static void promise33_sheet0And3() {
        due("the first", Cases.busy().sheet(0, 8, 1), 1);
        due("the last", Cases.busy().sheet(3, 8, 1), 1);
    }

    private static void promise33_sheetOutsideOf0To3() {
        Cases.outside(0, 3, BEYOND, Cases::busy, (x, v) -> x.sheet(v, 8, 1));
        Cases.outside(0, 3, BEYOND, Cases::busy, (x, v) -> x.sheet(v, 0, 0));
    }

    private static void promise33_otherBits() {
        for (int bits : new int[] {-32, -8, -1, 1, 4, 7, 9, 15, 17, 24, 31, 33, 64, MIN, MAX}) {
            Cases.refused(BEYOND, Cases::busy, x -> x.sheet(0, bits, 1));
        }
    }

    private static void promise33_bitsOf8And16And32() {
        for (int bits : new int[] {8, 16, 32}) {
            ChapterLoan x = told(1);
            due("sheet", x.sheet(0, bits, 1), 1);
            due("its number is 0", x.judge(0, 0), -1);
        }
    }

    private static void promise33_nOf0And40() {
        ChapterLoan x = new ChapterLoan();
        due("none", x.sheet(0, 8, 0), 1);
        due("it has none", x.put(0, 0, 1), BEYOND);
        due("it isn't missing", x.reads(0), 0);
        due("forty", x.sheet(0, 8, 40), 1);
        due("the last", x.put(0, 39, 1), 1);
        due("a 41st", x.put(0, 40, 1), BEYOND);
    }

    private static void promise33_nAbove40() {
        for (int n : new int[] {41, 100, MAX}) {
            Cases.refused(BEYOND, Cases::busy, x -> x.sheet(0, 16, n));
        }
    }

    private static void promise33_nBelow0IsState() {
        for (int n : new int[] {-1, -2, MIN}) {
            Cases.refused(STATE, Cases::busy, x -> x.sheet(0, 8, n));
            Cases.refused(STATE, Cases::busy, x -> x.sheet(3, 32, n));
        }
    }

    private static void promise33_beyondOfTheRestAheadOfState() {
        Cases.refused(BEYOND, Cases::busy, x -> x.sheet(4, 8, -1));
        Cases.refused(BEYOND, Cases::busy, x -> x.sheet(-1, 8, -1));
        Cases.refused(BEYOND, Cases::busy, x -> x.sheet(0, 7, -1));
    }

    private static void promise33_with0BitsNDoesNotMatter() {
        for (int n : new int[] {0, 1, 40, 41, -1, MIN, MAX}) {
            ChapterLoan x = Cases.busy();
            due("sheet(0, 0, " + n + ")", x.sheet(0, 0, n), 1);
            due("it is missing", x.judge(0, 0), NONE);
            due("again", x.sheet(0, 0, n), 1);
        }
    }

    private static void promise33_allAre0() {
        ChapterLoan x = told(1);
        Cases.sheet(x, 0, 8, 5, 6, 7);
        x.sheet(0, 8, 1);
        due("the first", x.judge(0, 0), -1);
        Cases.sheet(x, 0, 8, 5, 6, 7);
        x.sheet(0, 0, 0);
        x.sheet(0, 8, 1);
        due("when it was missing", x.judge(0, 0), -1);
    }

    // ---- 34: put

    private static void promise34_theFirstAndTheLast() {
        ChapterLoan x = told(8);
        x.sheet(0, 8, 8);
        for (int i = 7; i >= 0; i--) {
            due("put", x.put(0, i, i), 1);
        }
        due("all are there", x.judge(0, 0), -1);
    }

    private static void promise34_noSuchNumber() {
        Cases.outside(0, 2, BEYOND, Cases::busy, (x, v) -> x.put(0, v, 7));
        Cases.outside(0, 4, BEYOND, Cases::busy, (x, v) -> x.put(1, v, 7));
    }

    private static void promise34_noSuchSheet() {
        Cases.outside(0, 3, BEYOND, Cases::busy, (x, v) -> x.put(v, 0, 7));
    }

    private static void promise34_itIsMissing() {
        Cases.refused(NONE, Cases::busy, x -> x.put(3, 0, 7));
    }

    private static void promise34_noneAheadOfBeyondOfTheNumber() {
        Cases.refused(NONE, Cases::busy, x -> x.put(3, 40, 7));
        Cases.refused(NONE, Cases::busy, x -> x.put(3, -1, 7));
    }

    private static void promise34_theLowestBits() {
        int[][] want = {
            {8, 255, 0}, {8, 256, -1}, {8, -256, -1}, {8, MIN, -1}, {8, 128, 0},
            {16, 256, 0}, {16, 65535, 0}, {16, 65536, -1}, {16, -65536, -1}, {16, 32768, 0},
            {32, 65536, 0}, {32, MIN, 0}, {32, -65536, 0}, {32, 0, -1},
        };
        for (int[] row : want) {
            ChapterLoan x = told(1);
            x.sheet(0, row[0], 1);
            due("put", x.put(0, 0, row[1]), 1);
            due(row[1] + " in " + row[0] + " bits", x.judge(0, 0), row[2]);
        }
    }

    // ---- 35: move

    private static void promise35_allOfThem() {
        ChapterLoan x = told(3);
        Cases.sheet(x, 0, 8, 0, 1, 2);
        x.sheet(1, 8, 3);
        due("move", x.move(0, 0, 1, 0, 3), 3);
        due("they came", x.judge(1, 0), -1);
        due("and stay", x.judge(0, 0), -1);
    }

    private static void promise35_theLastOne() {
        ChapterLoan x = told(3);
        Cases.sheet(x, 0, 16, 9, 9, 2);
        Cases.sheet(x, 1, 16, 0, 1, 9);
        due("move", x.move(0, 2, 1, 2, 1), 1);
        due("it came", x.judge(1, 0), -1);
    }

    private static void promise35_none() {
        Cases.onlyThought(0, Cases::busy, x -> x.move(0, 0, 0, 0, 0));
        Cases.onlyThought(0, Cases::busy, x -> x.move(0, 3, 0, 3, 0));
        Cases.onlyThought(0, () -> {
            ChapterLoan x = Cases.busy();
            x.sheet(3, 8, 0);
            return x;
        }, x -> x.move(3, 0, 0, 3, 0));
    }

    private static void promise35_theyDoNotStandThere() {
        Cases.refused(BEYOND, Cases::busy, x -> x.move(0, 4, 0, 0, 0));
        Cases.refused(BEYOND, Cases::busy, x -> x.move(0, 0, 0, 4, 0));
        Cases.refused(BEYOND, Cases::busy, x -> x.move(0, 0, 0, 0, 4));
        Cases.refused(BEYOND, Cases::busy, x -> x.move(0, 1, 0, 0, 3));
        Cases.refused(BEYOND, Cases::busy, x -> x.move(0, 0, 0, 1, 3));
        Cases.refused(BEYOND, Cases::busy, x -> x.move(0, 3, 0, 0, 1));
        Cases.refused(BEYOND, Cases::busy, x -> x.move(0, 0, 0, 3, 1));
    }

    private static void promise35_below0() {
        Cases.refused(BEYOND, Cases::busy, x -> x.move(0, 1, 0, 1, -1));
        Cases.refused(BEYOND, Cases::busy, x -> x.move(0, -1, 0, 1, 1));
        Cases.refused(BEYOND, Cases::busy, x -> x.move(0, 1, 0, -1, 1));
        Cases.refused(BEYOND, Cases::busy, x -> x.move(0, -1, 0, 0, 0));
        Cases.refused(BEYOND, Cases::busy, x -> x.move(0, 0, 0, -1, 0));
    }

    private static void promise35_farAway() {
        int[] far = {MIN, MAX, MAX - 1, MIN + 1};
        for (int v : far) {
            Cases.refused(BEYOND, Cases::busy, x -> x.move(0, v, 0, 1, 1));
            Cases.refused(BEYOND, Cases::busy, x -> x.move(0, 1, 0, v, 1));
            Cases.refused(BEYOND, Cases::busy, x -> x.move(0, 1, 0, 1, v));
            Cases.refused(BEYOND, Cases::busy, x -> x.move(0, v, 0, v, v));
        }
    }

    private static void promise35_anotherOneThatIsShorter() {
        ChapterLoan x = told(3);
        Cases.sheet(x, 0, 8, 0, 1, 2);
        x.sheet(1, 8, 2);
        due("three", x.move(0, 0, 1, 0, 3), BEYOND);
        due("two", x.move(0, 0, 1, 0, 2), 2);
        due("back", x.move(1, 0, 0, 1, 3), BEYOND);
    }

    private static void promise35_unlikeBits() {
        Cases.refused(KIND, Cases::busy, x -> x.move(0, 0, 1, 0, 1));
        Cases.refused(KIND, Cases::busy, x -> x.move(1, 0, 2, 0, 1));
        Cases.refused(KIND, Cases::busy, x -> x.move(2, 0, 0, 0, 0));
    }

    private static void promise35_kindAheadOfBeyond() {
        Cases.refused(KIND, Cases::busy, x -> x.move(0, 9, 1, 0, 1));
        Cases.refused(KIND, Cases::busy, x -> x.move(0, 0, 1, -1, -1));
    }

    private static void promise35_oneIsMissing() {
        Cases.refused(NONE, Cases::busy, x -> x.move(3, 0, 0, 0, 1));
        Cases.refused(NONE, Cases::busy, x -> x.move(0, 0, 3, 0, 1));
        Cases.refused(NONE, Cases::busy, x -> x.move(3, 0, 3, 0, 0));
        Cases.refused(NONE, Cases::busy, x -> x.move(3, -1, 0, 0, -1));
    }

    private static void promise35_noSuchSheet() {
        Cases.outside(0, 3, BEYOND, Cases::busy, (x, v) -> x.move(v, 0, 0, 0, 1));
        Cases.outside(0, 3, BEYOND, Cases::busy, (x, v) -> x.move(0, 0, v, 0, 1));
    }

    private static void promise35_noSuchSheetAheadOfMissing() {
        Cases.refused(BEYOND, Cases::busy, x -> x.move(3, 0, 4, 0, 1));
        Cases.refused(BEYOND, Cases::busy, x -> x.move(4, 0, 3, 0, 1));
    }

    private static void promise35_asTheyAllWere() {
        ChapterLoan x = told(8);
        Cases.sheet(x, 0, 8, 1, 2, 3, 4, 5, 6, 7, 99);
        due("one place on", x.move(0, 0, 0, 1, 7), 7);
        x.put(0, 0, 0);
        due("each is as it was", x.judge(0, 0), -1);
        Cases.sheet(x, 0, 8, 99, 0, 1, 2, 3, 4, 5, 6);
        due("one place back", x.move(0, 1, 0, 0, 7), 7);
        x.put(0, 7, 7);
        due("each is as it was", x.judge(0, 0), -1);
        due("to where they are", x.move(0, 0, 0, 0, 8), 8);
        due("each is as it was", x.judge(0, 0), -1);
    }

    // ---- 36: reads

    private static void promise36_noneAndAll() {
        ChapterLoan x = Cases.town(8, 0);
        x.sheet(0, 8, 0);
        due("none", x.reads(0), 0);
        Cases.sheet(x, 0, 8, 7, 6, 5, 4, 3, 2, 1, 0);
        due("all eight", x.reads(0), 8);
        due("DEBT", x.ofDebtor(0, 2), 20);
        due("the first", x.book(0, 0, 0), 7);
        due("the last", x.book(0, 7, 0), 0);
    }

    private static void promise36_upToTheFirstThatIsRefused() {
        int[][] rows = {{0, 1, 0, 2}, {0, 1, 3, 2}, {0, 1, 255, 2}, {0, 1, 4, 2}};
        for (int[] row : rows) {
            ChapterLoan x = Cases.town(3, 0);
            x.fact(128, 0);
            Cases.sheet(x, 0, 8, row);
            due("reads with " + row[2], x.reads(0), 2);
            due("BOOK", x.ofDebtor(0, 4), 3);
            due("no ERROR", allTold(x), 0);
        }
    }

    private static void promise36_numbersOf32Bits() {
        ChapterLoan x = Cases.town(3, 0);
        for (int v : new int[] {-1, MIN, MAX, 3}) {
            Cases.sheet(x, 0, 32, v);
            due("reads " + v, x.reads(0), 0);
        }
        due("no ERROR", allTold(x), 0);
        Cases.sheet(x, 0, 32, 2);
        due("reads 2", x.reads(0), 1);
    }

    private static void promise36_brokenOrNoDebtor0() {
        ChapterLoan x = Cases.broken();
        x.fact(0, 0);
        Cases.sheet(x, 0, 8, 1);
        due("BROKEN", x.reads(0), 0);
        ChapterLoan y = Cases.town(1);
        Cases.sheet(y, 0, 8, 0);
        due("no DEBTOR 0", y.reads(0), 0);
        due("no ERROR", allTold(x) + allTold(y), 0);
    }

    private static void promise36_oneThatIsToldMakesRoomForTheNext() {
        ChapterLoan x = new ChapterLoan();
        x.fact(2, 0);
        x.fact(0, 0);
        x.debtor(0, 15);
        Cases.sheet(x, 0, 8, 1, 0);
        due("both", x.reads(0), 2);
        due("DEBT: 0 at least", x.ofDebtor(0, 2), 0);
    }

    private static void promise36_noSuchSheet() {
        Cases.outside(0, 3, BEYOND, Cases::busy, (x, v) -> x.reads(v));
    }

    private static void promise36_itIsMissing() {
        Cases.refused(NONE, Cases::busy, x -> x.reads(3));
    }

    // ---- 37: judge

    private static void promise37_allAre() {
        Cases.onlyThought(-1, Cases::busy, x -> x.judge(0, 0));
        Cases.onlyThought(-1, Cases::busy, x -> x.judge(1, 1));
        ChapterLoan x = Cases.town(1, 0);
        x.sheet(0, 8, 0);
        due("none of none", x.judge(0, 0), -1);
    }

    private static void promise37_oneLacks() {
        Cases.onlyThought(2, Cases::busy, x -> x.judge(2, 0));
        ChapterLoan x = told(1);
        x.sheet(0, 8, 0);
        due("of none", x.judge(0, 0), 0);
    }

    private static void promise37_oneTooMany() {
        Cases.onlyThought(3, Cases::busy, x -> x.judge(1, 0));
        ChapterLoan x = told(0);
        x.sheet(0, 8, 1);
        due("behind none", x.judge(0, 0), 0);
    }

    private static void promise37_theFirstAndTheLastIsNotSo() {
        ChapterLoan x = told(8);
        Cases.sheet(x, 0, 8, 1, 1, 2, 3, 4, 5, 6, 7);
        due("the first", x.judge(0, 0), 0);
        Cases.sheet(x, 0, 8, 0, 1, 2, 3, 4, 5, 6, 6);
        due("the last", x.judge(0, 0), 7);
        Cases.sheet(x, 0, 8, 0, 1, 2, 3, 4, 5, 6, 7);
        due("none", x.judge(0, 0), -1);
        Cases.sheet(x, 0, 8, 0, 1, 2, 3, 4, 5, 6, 7, 0);
        due("a ninth", x.judge(0, 0), 8);
    }

    private static void promise37_noSuchSheet() {
        Cases.outside(0, 3, BEYOND, Cases::busy, (x, v) -> x.judge(v, 0));
    }

    private static void promise37_noSuchDebtor() {
        Cases.outside(0, 2, BEYOND, Cases::busy, (x, v) -> x.judge(0, v));
    }

    private static void promise37_itIsMissing() {
        Cases.refused(NONE, Cases::busy, x -> x.judge(3, 0));
    }

    private static void promise37_beyondAheadOfNone() {
        Cases.outside(0, 2, BEYOND, Cases::busy, (x, v) -> x.judge(3, v));
    }

    // ---- 38, 39: image, restore

    private static void promise38_howOften() {
        ChapterLoan x = Cases.town(1, 0);
        for (int i = 1; i <= 5; i++) {
            due("image", x.image(), i);
        }
        x.restore();
        due("restore() counts nothing", x.image(), 6);
    }

    private static void promise38_inPlaceOfTheOneAhead() {
        ChapterLoan x = Cases.town(1);
        x.image();
        x.weeks(3);
        x.image();
        x.weeks(3);
        due("the second one", x.restore(), 3);
        due("WEEK", x.count(2), 3);
    }

    private static void promise38_whatComesLaterIsNotInIt() {
        ChapterLoan x = Cases.town(2, 0);
        x.image();
        x.fact(0, 0);
        x.debtor(0, 0);
        x.clash(0, 1, 1);
        x.explain(0, 1, 1);
        x.tells(0, 1);
        x.restore();
        due("FACTS", x.count(0), 2);
        due("DEBTORS", x.count(1), 1);
        due("CLASHES", x.ofFact(0, 1), 0);
        due("WITHIN", x.ofFact(0, 2), 0);
        due("BOOK", x.ofDebtor(0, 4), 0);
        due("DEBT", x.ofDebtor(0, 2), 100);
    }

    /** Changes all that an IMAGE keeps, by calls that none refuses. */
    private static void changeAll(ChapterLoan x) {
        x.clash(0, 2, 1);
        x.clash(1, 3, 0);
        x.explain(0, 1, 2);
        x.explain(3, 5, 1);
        x.fact(2, 31);
        x.pardon(1);
        x.become(0, 61);
        x.lend(0, 999);
        x.become(1, 34);
        x.lend(1, 30);
        x.tells(1, 3);
        x.tells(1, 0);
        x.debtor(25, 77);
        x.meeting(0, 2, 3);
        x.meeting(1, 3, 0);
        x.weeks(3);
        x.loose(2);
        x.seed(4);
        x.check();
        x.tell(1);
        x.text(1);
        Cases.text(x, 0, "f+4");
        Cases.text(x, 1, "o+3");
        Cases.feed(x, "d+5+5+5+5");
    }

    private static void promise39_allIsAsTheImageHasIt() {
        ChapterLoan x = Cases.busy();
        x.image();
        changeAll(x);
        due("WEEK", x.restore(), 3);
        ChapterLoan y = Cases.busy();
        y.image();
        Cases.alike(x, y);
    }

    private static void promise39_theImageIsNotChanged() {
        ChapterLoan x = Cases.busy();
        x.image();
        x.restore();
        changeAll(x);
        x.restore();
        ChapterLoan y = Cases.busy();
        y.image();
        Cases.alike(x, y);
    }

    private static void promise39_addedAgainBehindIt() {
        ChapterLoan x = Cases.busy();
        x.image();
        x.fact(1, 31);
        x.clash(5, 0, 1);
        x.explain(5, 3, 0);
        x.debtor(69, 50);
        x.weeks(2);
        x.restore();
        due("a FACT", x.fact(2, 4), 5);
        int[] fact = {2, 0, 0, -1, 4, 0};
        for (int what = 0; what < 6; what++) {
            due("ofFact(5, " + what + ")", x.ofFact(5, what), fact[what]);
        }
        due("a DEBTOR", x.debtor(12, 7), 3);
        int[] debtor = {1, 2, 7, 0, 0, 0};
        for (int what = 0; what < 6; what++) {
            due("ofDebtor(3, " + what + ")", x.ofDebtor(3, what), debtor[what]);
        }
    }

    private static void promise39_thereIsNone() {
        Cases.refused(NONE, () -> Cases.town(8, 0), x -> x.restore());
        Cases.refused(NONE, ChapterLoan::new, x -> x.restore());
    }

    private static void promise39_week0And999() {
        ChapterLoan x = new ChapterLoan();
        x.image();
        x.weeks(9);
        due("0", x.restore(), 0);
        ChapterLoan y = Cases.inWeek(999, 1);
        y.image();
        due("999", y.restore(), 999);
    }

    private static void promise39_itStays() {
        ChapterLoan x = Cases.town(1);
        x.weeks(2);
        x.image();
        for (int i = 0; i < 3; i++) {
            x.weeks(7);
            due("restore", x.restore(), 2);
        }
    }

    private static void promise39_theTapeAndTheNumbersThatWait() {
        ChapterLoan x = Cases.town(1);
        Cases.feed(x, "4");
        x.tell(0);
        x.image();
        Cases.feed(x, "4");
        x.text(0);
        x.check();
        x.tell(5);
        x.tell(5);
        x.restore();
        due("bytes", x.count(6), 1);
        due("numbers", x.count(7), 1);
        due("PAY", x.law(0, 0, 0, 0), 10);
        due("text", x.text(0), 1);
        due("PAY", x.law(0, 0, 0, 0), 4);
        due("check", x.check(), 0);
    }

    private static void promise39_notWhatToldTells() {
        ChapterLoan x = Cases.town(1);
        x.count(10);
        x.image();
        x.count(10);
        x.restore();
        due("told", x.told(1), 2);
    }

    private static void promise39_notTheSheets() {
        ChapterLoan x = told(1);
        x.sheet(0, 8, 1);
        x.image();
        x.put(0, 0, 9);
        x.sheet(1, 8, 1);
        x.restore();
        due("its number", x.judge(0, 0), 0);
        due("one that was missing", x.judge(1, 0), -1);
    }

    private static void promise39_notTheTrace() {
        ChapterLoan x = Cases.town(1, 0);
        x.voice(0, 3, 1);
        x.image();
        x.voice(0, 0, 1);
        x.restore();
        due("BODIES", x.count(8), 1);
        due("the one", x.trace(0), 10);
    }

    // ---- 40, 41: tell, check

    private static ChapterLoan waiting(int n) {
        ChapterLoan x = Cases.town(8, 0);
        for (int i = 0; i < n; i++) {
            x.tell(i < 8 ? 90 - 10 * i : 20);
        }
        return x;
    }

    private static void promise40_from1To20() {
        ChapterLoan x = new ChapterLoan();
        for (int i = 1; i <= 20; i++) {
            due("tell", x.tell(i % 2 == 0 ? MIN : MAX), i);
        }
    }

    private static void promise40_the21stIsFull() {
        Cases.refused(FULL, () -> waiting(20), x -> x.tell(0));
        Cases.refused(FULL, () -> waiting(20), x -> x.tell(MIN));
        due("the 20th", waiting(19).tell(0), 20);
    }

    private static void promise40_roomAgainBehindCheck() {
        ChapterLoan x = waiting(20);
        x.tell(0);
        x.check();
        due("tell", x.tell(0), 1);
    }

    private static void promise41_noneWait() {
        Cases.onlyThought(0, () -> Cases.town(8, 0), x -> x.check());
    }

    private static void promise41_noneDoThen() {
        for (int n : new int[] {1, 20}) {
            ChapterLoan x = waiting(n);
            due("check", x.check(), 0);
            due("numbers", x.count(7), 0);
            due("once more", x.check(), 0);
        }
        ChapterLoan y = waiting(0);
        y.tell(1);
        y.tell(80);
        due("check", y.check(), 1);
        due("numbers", y.count(7), 0);
    }

    private static void promise41_theFirstAndTheTwentiethIsNotSo() {
        for (int place = 0; place < 20; place++) {
            ChapterLoan x = waiting(place);
            x.tell(-1);
            while (x.count(7) < 20) {
                x.tell(-1);
            }
            due("check", x.check(), 1 + place);
        }
        due("all are so", waiting(20).check(), 0);
    }

    private static void promise41_behindWeeksNotNow() {
        ChapterLoan x = Cases.town(8, 0);
        x.tell(100);
        due("now", x.check(), 1);
        x.tell(90);
        due("behind a WEEK", x.check(), 0);
    }

    private static void promise41_nothingGoesBy() {
        ChapterLoan x = waiting(20);
        x.check();
        due("WEEK", x.count(2), 0);
        due("DEBTS", x.count(4), 100);
        due("BROKEN", x.count(5), 0);
        due("BOOK", x.ofDebtor(0, 3), 0);
    }

    private static void promise41_debtsOfAllTogether() {
        ChapterLoan x = Cases.town(8, 0, 10, 50, 30);
        x.tell(90 + 95 + 80 + 80);
        due("check", x.check(), 0);
        x.tell(90 + 95 + 80 + 80 + 1);
        due("one more", x.check(), 1);
        x.tell(90 + 95 + 80 + 80 - 1);
        due("one less", x.check(), 1);
        ChapterLoan y = new ChapterLoan();
        for (int i = 0; i < 4; i++) {
            y.debtor(0, 9999);
        }
        y.tell(39996);
        due("the most", y.check(), 0);
    }

    private static void promise41_beyondWeek999() {
        ChapterLoan x = Cases.inWeek(999, 3);
        x.lend(0, 25);
        x.tell(15);
        x.tell(5);
        x.tell(0);
        due("check", x.check(), 0);
        due("WEEK", x.count(2), 999);
    }

    // ---- 42, 43: count, told

    private static void promise42_eachOfThem() {
        int[] want = {5, 3, 3, 2, 525, 1, 5, 2, 4, 77};
        for (int what = 0; what < 10; what++) {
            int asked = what;
            Cases.onlyThought(want[what], Cases::busy, x -> x.count(asked));
        }
    }

    private static void promise42_whatOutsideOf0To9() {
        Cases.outside(0, 9, BEYOND, Cases::busy, (x, v) -> x.count(v));
    }

    private static void promise42_theMostOfEach() {
        ChapterLoan x = new ChapterLoan();
        for (int i = 0; i < 21; i++) {
            x.fact(0, 0);
            x.debtor(0, 9999);
            x.meeting(0, 0, 1);
            x.tell(0);
            x.feed(0, 3);
        }
        x.feed(0, 2);
        int[] want = {8, 4, 0, 12, 39996, 0, 50, 20};
        for (int what = 0; what < want.length; what++) {
            due("count(" + what + ")", x.count(what), want[what]);
        }
    }

    private static void promise42_zLikeAnErrorIsNone() {
        ChapterLoan x = new ChapterLoan();
        x.seed(STATE);
        due("count(9)", x.count(9), STATE);
        due("ERRORS", allTold(x), 0);
    }

    private static void promise43_kOf1And5() {
        ChapterLoan x = Cases.town(1, 0);
        x.as(0, 6);
        x.count(10);
        x.count(10);
        due("BEYOND", x.told(1), 2);
        due("KIND", x.told(5), 1);
    }

    private static void promise43_kOutsideOf1To5() {
        Cases.outside(1, 5, BEYOND, Cases::busy, (x, v) -> x.told(v));
    }

    private static void promise43_itIsCountedToo() {
        ChapterLoan x = new ChapterLoan();
        x.told(0);
        due("one", x.told(1), 1);
        x.told(6);
        due("two", x.told(1), 2);
    }

    private static void promise43_eachErrorByItself() {
        ChapterLoan x = Cases.broken();
        x.count(10);
        x.trace(0);
        x.lend(0, 1);
        for (int i = 0; i < 21; i++) {
            x.tell(0);
        }
        x.as(0, 1);
        for (int k = 1; k <= 5; k++) {
            due("told(" + k + ")", x.told(k), 1);
        }
    }

    private static void promise43_whatAnswersNoErrorCountsNothing() {
        ChapterLoan x = Cases.town(1, 0);
        x.count(0);
        x.told(1);
        x.text(0);
        x.check();
        Cases.sheet(x, 0, 8, 9);
        x.reads(0);
        x.judge(0, 0);
        x.ofFact(0, 3);
        due("ERRORS", allTold(x), 0);
    }

    private static void promise43_manyOfThem() {
        ChapterLoan x = new ChapterLoan();
        for (int i = 0; i < 500; i++) {
            x.trace(i);
        }
        due("NONE", x.told(2), 500);
    }
}
