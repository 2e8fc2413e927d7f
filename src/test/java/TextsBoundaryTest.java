/** Point 2 and promises 17 to 19 at their boundaries: THE TAPE, TEXTS, what they give. */
public final class TextsBoundaryTest {
    private static final int BEYOND = Cases.BEYOND;
    private static final int FULL = Cases.FULL;
    private static final int MIN = Cases.MIN;
    private static final int MAX = Cases.MAX;

    private TextsBoundaryTest() {
    }

    public static void main(String[] args) throws IllegalAccessException {
        Cases.run(TextsBoundaryTest.class);
    }

    private static void due(String call, int got, int want) {
        Cases.due(call, got, want);
    }

    /** THE TAPE has n bytes: digits. */
    private static ChapterLoan taped(int n) {
        ChapterLoan x = new ChapterLoan();
        Cases.feed(x, "7".repeat(n));
        return x;
    }

    /** A TEXT of the USE TRUST is whole. */
    private static void whole(String text) {
        due(text, Cases.text(new ChapterLoan(), 1, text), 1);
    }

    /** A TEXT of the USE TRUST has its FAULT at a place; THE TAPE is empty then, and it is no ERROR. */
    private static void fault(String text, int place) {
        ChapterLoan x = new ChapterLoan();
        due(text, Cases.text(x, 1, text), -10 - place);
        due(text + ": THE TAPE", x.count(6), 0);
        due(text + ": ERRORS", x.told(1) + x.told(2) + x.told(3) + x.told(4) + x.told(5), 0);
    }

    /** A TEXT of the USE TRUST gives, with d, o, n, what it gives. */
    private static void gives(String text, int d, int o, int n, int want) {
        ChapterLoan x = new ChapterLoan();
        due(text, Cases.text(x, 1, text), 1);
        due(text + " with " + d + ", " + o + ", " + n, x.law(1, d, o, n), want);
    }

    // ---- point 2: which TEXTS there are

    private static void point2_numberOf1To4Digits() {
        whole("0");
        whole("12");
        whole("123");
        whole("9999");
        whole("0000");
        gives("0010", 0, 0, 0, 10);
    }

    private static void point2_numberOf5Digits() {
        fault("12345", 4);
        fault("00000", 4);
        fault("d+123456", 6);
    }

    private static void point2_numberOfNoDigits() {
        fault("", 0);
        fault("d+", 2);
        fault("+1", 0);
        fault("-1", 0);
    }

    private static void point2_bytesNextToDigits() {
        fault("/", 0);
        fault(":", 0);
        fault("1:", 1);
        gives("1/1", 0, 0, 0, 1);
    }

    private static void point2_oneComparisonIsAllTwoAreNot() {
        whole("1<2");
        whole("1=2");
        whole("1>2");
        fault("1<2<3", 3);
        fault("1=2=3", 3);
        fault("1>2>3", 3);
        fault("1<2=3", 3);
        whole("(1<2)<3");
        whole("1<(2<3)");
        whole("1<2&2<3");
        whole("1<2|2<3&3=4");
    }

    private static void point2_signsThatRepeat() {
        whole("1|0|0|0");
        whole("1&0&0&0");
        whole("1+2-3+4");
        whole("1*2/3%4");
        fault("1||0", 2);
        fault("1&&0", 2);
        fault("1++0", 2);
        fault("1**0", 2);
        fault("1<>0", 2);
    }

    private static void point2_noBlanks() {
        fault(" 1", 0);
        fault("1 ", 1);
        fault("1+ 1", 2);
        fault("1\n", 1);
    }

    private static void point2_fiveOfNotOpen() {
        whole("!!!!!d");
        fault("!!!!!!d", 5);
    }

    private static void point2_fiveBracketsOpen() {
        whole("(((((d)))))");
        fault("((((((d))))))", 5);
    }

    private static void point2_fiveOfBothOpen() {
        whole("!(!(!d))");
        fault("!(!(!(d)))", 5);
        fault("!(!(!!d))", 5);
        whole("(!(!(d)))");
        fault("(!(!(!d)))", 5);
    }

    private static void point2_thoseThatAreClosedAreNotOpen() {
        whole("!!!!!d+!!!!!d");
        whole("(((((d)))))*(((((d)))))");
        whole("((((!d+!o+!n))))");
        whole("(((((d)))+(((d)))))");
        whole("!!!!(d)+!!!!!d");
        fault("((((!d+!!o))))", 8);
    }

    private static void point2_notOfOneUnitAlone() {
        gives("!d+1", 5, 0, 0, 1);
        gives("!d=0", 5, 0, 0, 1);
        gives("!(d+1)", -1, 0, 0, 1);
        fault("!", 1);
        fault("!+d", 1);
        fault("d!", 1);
    }

    private static void point2_bracketsThatDoNotEnd() {
        fault("(d", 2);
        fault("(", 1);
        fault("()", 1);
        fault(")", 0);
        fault("(d))", 3);
        fault("d(", 1);
        fault("(d)(o)", 3);
    }

    private static void point2_theFirstByteWithWhichNoTextGoesOn() {
        fault("xd", 0);
        fault("dx", 1);
        fault("dd", 1);
        fault("d1", 1);
        fault("1d", 1);
        fault("d+x+x", 2);
        fault("(1<2>3)", 4);
        fault("D", 0);
    }

    private static void point2_itEndsTooEarly() {
        fault("d|", 2);
        fault("d&", 2);
        fault("d<", 2);
        fault("d-", 2);
        fault("d%", 2);
        fault("(d*(o+n)", 8);
    }

    private static void point2_bytesOf0And128And255() {
        fault("\u0000", 0);
        fault("d\u0000", 1);
        fault("d\u0080", 1);
        fault("d\u00ff", 1);
        fault("d+\u00e4", 2);
    }

    private static void point2_namesOfTheUse() {
        for (String name : new String[] {"f", "w", "d"}) {
            due("PAY " + name, Cases.text(new ChapterLoan(), 0, name), 1);
        }
        for (String name : new String[] {"d", "o", "n"}) {
            due("TRUST " + name, Cases.text(new ChapterLoan(), 1, name), 1);
        }
        due("PAY o", Cases.text(new ChapterLoan(), 0, "o"), -10);
        due("PAY n", Cases.text(new ChapterLoan(), 0, "d+n"), -12);
        due("TRUST f", Cases.text(new ChapterLoan(), 1, "f"), -10);
        due("TRUST w", Cases.text(new ChapterLoan(), 1, "d+w"), -12);
    }

    // ---- point 2: what they give

    private static void point2_divisionIsCut() {
        gives("d/o", 7, 2, 0, 3);
        gives("d/o", -7, 2, 0, -3);
        gives("d/o", 7, -2, 0, -3);
        gives("d/o", -1, 2, 0, 0);
    }

    private static void point2_theRestThatItLeaves() {
        gives("d%o", 7, 3, 0, 1);
        gives("d%o", -7, 3, 0, -1);
        gives("d%o", 7, -3, 0, 1);
        gives("d%o", -7, -3, 0, -1);
    }

    private static void point2_by0BothAre0() {
        gives("d/o", 7, 0, 0, 0);
        gives("d%o", 7, 0, 0, 0);
        gives("d/o", 0, 0, 0, 0);
        gives("d%o", MIN, 0, 0, 0);
        gives("d/1", 7, 0, 0, 7);
    }

    private static void point2_theLeastIntByMinus1() {
        gives("d/o", MIN, -1, 0, -999);
        gives("d/o=d", MIN, -1, 0, 1);
        gives("d%o", MIN, -1, 0, 0);
        gives("d/o=n", MIN + 1, -1, MAX, 1);
    }

    private static void point2_intsThatWrap() {
        gives("d+1=o", MAX, MIN, 0, 1);
        gives("d-1=o", MIN, MAX, 0, 1);
        gives("d*d", 65536, 0, 0, 0);
        gives("d*o=n", MAX, 2, -2, 1);
        gives("0-d=d", MIN, 0, 0, 1);
    }

    private static void point2_comparingFarApart() {
        gives("d<o", MIN, MAX, 0, 1);
        gives("d>o", MIN, MAX, 0, 0);
        gives("d=o", MIN, MAX, 0, 0);
    }

    private static void point2_comparingNextToEachOther() {
        gives("d<o", 4, 5, 0, 1);
        gives("d<o", 5, 5, 0, 0);
        gives("d<o", 6, 5, 0, 0);
        gives("d>o", 4, 5, 0, 0);
        gives("d>o", 5, 5, 0, 0);
        gives("d>o", 6, 5, 0, 1);
        gives("d=o", 4, 5, 0, 0);
        gives("d=o", 5, 5, 0, 1);
        gives("d=o", 6, 5, 0, 0);
    }

    private static void point2_whatIsNot0IsTrue() {
        gives("d&o", 5, -3, 0, 1);
        gives("d&o", 5, 0, 0, 0);
        gives("d&o", 0, 5, 0, 0);
        gives("d|o", 0, -1, 0, 1);
        gives("d|o", 2, 0, 0, 1);
        gives("d|o", 0, 0, 0, 0);
        gives("d&o", 2, 1, 0, 1);
        gives("!d", -1, 0, 0, 0);
        gives("!d", 0, 0, 0, 1);
        gives("!!d", 7, 0, 0, 1);
    }

    private static void point2_fromTheLeft() {
        gives("d-o-n", 10, 3, 2, 5);
        gives("d/o/n", 12, 3, 2, 2);
        gives("d/o*n", 12, 3, 2, 8);
        gives("d%o*n", 7, 4, 2, 6);
    }

    private static void point2_whatBindsMore() {
        gives("d+o*n", 1, 2, 3, 7);
        gives("d<o+n", 1, 1, 1, 1);
        gives("d&o<n", 1, 1, 2, 1);
        gives("d|o&n", 1, 1, 0, 1);
        gives("(d|o)&n", 1, 1, 0, 0);
        gives("(d+o)*n", 1, 2, 3, 9);
    }

    private static void point2_allIsWorkedOut() {
        gives("1|d/0", 5, 0, 0, 1);
        gives("0&d/0", 5, 0, 0, 0);
    }

    // ---- 17: feed

    private static void promise17_of1And8Bytes() {
        ChapterLoan x = new ChapterLoan();
        due("one", x.feed('1', 1), 1);
        due("eight", x.feed(0x3131313131313131L, 8), 9);
    }

    private static void promise17_outsideOf1To8() {
        Cases.outside(1, 8, BEYOND, Cases::busy, (x, v) -> x.feed(0x2b2b2b2b2b2b2b2bL, v));
    }

    private static void promise17_upTo50Bytes() {
        due("49", taped(48).feed('7', 1), 49);
        due("50", taped(49).feed('7', 1), 50);
        due("50 by two", taped(48).feed(0x3737, 2), 50);
        due("50 by eight", taped(42).feed(0x3737373737373737L, 8), 50);
    }

    private static void promise17_the51stIsFull() {
        Cases.refused(FULL, () -> taped(50), x -> x.feed('7', 1));
        Cases.refused(FULL, () -> taped(49), x -> x.feed(0x3737, 2));
        Cases.refused(FULL, () -> taped(43), x -> x.feed(0x3737373737373737L, 8));
        Cases.refused(FULL, () -> taped(50), x -> x.feed(0x3737373737373737L, 8));
    }

    private static void promise17_beyondAheadOfFull() {
        Cases.outside(1, 8, BEYOND, () -> taped(50), (x, v) -> x.feed(0, v));
    }

    private static void promise17_theLowestFirst() {
        ChapterLoan x = new ChapterLoan();
        x.feed(0x342d392b3838L, 6);
        due("88+9-4", x.text(0), 1);
        due("gives", x.law(0, 0, 0, 0), 93);
    }

    private static void promise17_onlyTheNLowest() {
        ChapterLoan x = new ChapterLoan();
        due("two", x.feed(0x78783531L, 2), 2);
        due("15", x.text(0), 1);
        due("gives", x.law(0, 0, 0, 0), 15);
    }

    private static void promise17_theHighestByteOfAll() {
        ChapterLoan x = new ChapterLoan();
        x.feed(0x392b312b312b3131L, 8);
        due("11+1+1+9", x.text(0), 1);
        due("gives", x.law(0, 0, 0, 0), 22);
        x.feed(0xff2b312b312b3131L, 8);
        due("a last byte of 255", x.text(0), -17);
    }

    private static void promise17_bytesBehindThoseThatAreThere() {
        ChapterLoan x = new ChapterLoan();
        x.feed('4', 1);
        x.feed('2', 1);
        x.text(0);
        due("42", x.law(0, 0, 0, 0), 42);
        due("THE TAPE is empty", x.feed('4', 1), 1);
    }

    // ---- 18: text

    private static void promise18_useOf0And1() {
        due("PAY", Cases.text(new ChapterLoan(), 0, "w"), 1);
        due("TRUST", Cases.text(new ChapterLoan(), 1, "o"), 1);
    }

    private static void promise18_useOutsideOf0And1() {
        Cases.outside(0, 1, BEYOND, Cases::busy, (x, v) -> x.text(v));
        Cases.outside(0, 1, BEYOND, ChapterLoan::new, (x, v) -> x.text(v));
    }

    private static void promise18_withBeyondTheTapeStays() {
        ChapterLoan x = taped(3);
        x.text(2);
        due("THE TAPE", x.count(6), 3);
        due("is whole", x.text(0), 1);
        due("gives", x.law(0, 0, 0, 0), 777);
    }

    private static void promise18_theTapeIsEmptyThen() {
        ChapterLoan x = taped(1);
        x.text(0);
        due("THE TAPE", x.count(6), 0);
        due("nothing is there to be read again", x.text(0), -10);
    }

    private static void promise18_inPlaceOfTheOneAhead() {
        ChapterLoan x = new ChapterLoan();
        Cases.text(x, 0, "1");
        Cases.text(x, 0, "2+f");
        due("PAY", x.law(0, 0, 0, 0), 2);
        due("TRUST stays", x.law(1, 0, 0, 1), 10);
        Cases.text(x, 1, "3");
        due("TRUST", x.law(1, 0, 0, 0), 3);
        due("PAY stays", x.law(0, 1, 0, 0), 3);
    }

    private static void promise18_faultOfAnEmptyTape() {
        due("text", new ChapterLoan().text(0), -10);
        due("text", new ChapterLoan().text(1), -10);
    }

    private static void promise18_withAFaultTheOneAheadStays() {
        ChapterLoan x = Cases.busy();
        due("n*7-d as PAY", x.text(0), -10);
        due("PAY stays", x.law(0, 0, 0, 0), 10);
        due("TRUST stays", x.law(1, 0, 2, 9), 5);
        due("THE TAPE is empty, too", x.count(6), 0);
        ChapterLoan y = new ChapterLoan();
        Cases.text(y, 0, "d+");
        due("without one ahead, too", y.law(0, 1, 2, 3), 10);
    }

    private static void promise18_aFaultIsNoError() {
        ChapterLoan x = Cases.busy();
        int[] told = new int[6];
        for (int k = 1; k <= 5; k++) {
            told[k] = x.told(k);
        }
        x.text(0);
        for (int k = 1; k <= 5; k++) {
            due("told(" + k + ")", x.told(k), told[k]);
        }
    }

    private static void promise18_of50Bytes() {
        String fifty = "1+".repeat(24) + "10";
        ChapterLoan x = new ChapterLoan();
        due("50 bytes", Cases.text(x, 0, fifty), 1);
        due("gives", x.law(0, 0, 0, 0), 34);
        due("49 bytes", Cases.text(x, 0, fifty.substring(0, 49)), 1);
        due("gives", x.law(0, 0, 0, 0), 25);
        due("50 that end too early", Cases.text(x, 0, "1+".repeat(25)), -60);
        due("the last one of 50", Cases.text(x, 0, "1+".repeat(24) + "1x"), -59);
    }

    private static void promise18_faultAtPlaces0And1And9() {
        due("0", Cases.text(new ChapterLoan(), 0, "+f"), -10);
        due("1", Cases.text(new ChapterLoan(), 0, "f!f"), -11);
        due("9", Cases.text(new ChapterLoan(), 0, "f+w+d+f+w("), -19);
    }

    // ---- 19: law

    private static void promise19_useOutsideOf0And1() {
        Cases.outside(0, 1, BEYOND, Cases::busy, (x, v) -> x.law(v, 1, 2, 3));
    }

    private static void promise19_payIsHeldWithin0And999() {
        ChapterLoan x = new ChapterLoan();
        Cases.text(x, 0, "f");
        int[][] want = {{MIN, 0}, {-1, 0}, {0, 0}, {1, 1}, {998, 998}, {999, 999}, {1000, 999}, {MAX, 999}};
        for (int[] row : want) {
            due("with " + row[0], x.law(0, row[0], 0, 0), row[1]);
        }
    }

    private static void promise19_trustIsHeldWithinMinus999And999() {
        ChapterLoan x = new ChapterLoan();
        Cases.text(x, 1, "d");
        int[][] want = {
            {MIN, -999}, {-1000, -999}, {-999, -999}, {-998, -998}, {0, 0}, {998, 998}, {999, 999}, {1000, 999}, {MAX, 999},
        };
        for (int[] row : want) {
            due("with " + row[0], x.law(1, row[0], 0, 0), row[1]);
        }
    }

    private static void promise19_namesInOrder() {
        ChapterLoan x = new ChapterLoan();
        Cases.text(x, 0, "f*100+w*10+d");
        Cases.text(x, 1, "d*100+o*10+n");
        due("PAY", x.law(0, 1, 2, 3), 123);
        due("TRUST", x.law(1, 4, 5, 6), 456);
    }

    private static void promise19_withoutAText() {
        ChapterLoan x = new ChapterLoan();
        due("PAY", x.law(0, MIN, MAX, 7), 10);
        due("TRUST of 0, 0, 0", x.law(1, 0, 0, 0), 0);
        due("TRUST", x.law(1, 1, 10, 100), 1000 - 50 - 1);
        due("TRUST below 0", x.law(1, 999, 0, 0), -999);
        due("TRUST that wraps", x.law(1, MIN, 0, -214748364), -2147483640 - MIN);
    }

    private static void promise19_trustWithoutATextIsHeldToo() {
        ChapterLoan x = new ChapterLoan();
        due("999", x.law(1, 1, 0, 100), 999);
        due("1000", x.law(1, 0, 0, 100), 999);
        due("-1000", x.law(1, 1000, 0, 0), -999);
        ChapterLoan y = Cases.town(0);
        y.debtor(0, 999);
        y.debtor(0, 1000);
        due("of a DEBT of 999", y.ofDebtor(0, 9), -999);
        due("of a DEBT of 1000", y.ofDebtor(1, 9), -999);
    }

    private static void promise19_nothingIsDone() {
        Cases.onlyThought(10, Cases::busy, x -> x.law(0, 1, 2, 3));
        Cases.onlyThought(5, Cases::busy, x -> x.law(1, 0, 2, 9));
    }
}
