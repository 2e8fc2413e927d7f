/** For each promise what it asks for: ordinary calls, the edges that it names, and each ERROR in its order. */
public final class PromisesTest {
    private static final int LOW = -1000000000;
    private static final int BEYOND = LOW - 1;
    private static final int NONE = LOW - 2;
    private static final int STATE = LOW - 3;
    private static final int FULL = LOW - 4;
    private static final int KIND = LOW - 5;
    private static final int MIN = Integer.MIN_VALUE;
    private static final int MAX = Integer.MAX_VALUE;

    private static int wrong = 0;
    private static int promise = 0;

    private static void due(String call, int got, int want) {
        if (got != want) {
            wrong++;
            System.out.println("promise " + promise + ": " + call + " answered " + got + ", due is " + want);
        }
    }

    /** A town with n FACTS that need nothing, and DEBTORS of the KINDS, with a DEBT of 100 each. */
    private static ChapterLoan town(int n, int... kms) {
        ChapterLoan x = new ChapterLoan();
        for (int i = 0; i < n; i++) {
            x.fact(0, 0);
        }
        for (int km : kms) {
            x.debtor(km, 100);
        }
        return x;
    }

    private static void feed(ChapterLoan x, String text) {
        for (int i = 0; i < text.length(); i++) {
            x.feed(text.charAt(i), 1);
        }
    }

    private static int text(ChapterLoan x, int use, String text) {
        feed(x, text);
        return x.text(use);
    }

    private static void sheet(ChapterLoan x, int sheet, int... numbers) {
        x.sheet(sheet, 8, numbers.length);
        for (int i = 0; i < numbers.length; i++) {
            x.put(sheet, i, numbers[i]);
        }
    }

    /** A BROKEN DEBTOR 0 that told FACT 0 in WEEK 0 and found no other one in WEEK 1. */
    private static ChapterLoan broken() {
        ChapterLoan x = town(1, 0);
        x.weeks(2);
        return x;
    }

    public static void main(String[] args) {
        Runnable[] all = {
            PromisesTest::newObject, PromisesTest::fact, PromisesTest::clash, PromisesTest::explain,
            PromisesTest::ofFact, PromisesTest::debtor, PromisesTest::ofDebtor, PromisesTest::book,
            PromisesTest::become, PromisesTest::as, PromisesTest::lend, PromisesTest::tells,
            PromisesTest::pardon, PromisesTest::weeks, PromisesTest::loose, PromisesTest::then,
            PromisesTest::feed, PromisesTest::text, PromisesTest::law, PromisesTest::served,
            PromisesTest::closed, PromisesTest::clashOf, PromisesTest::joined, PromisesTest::rated,
            PromisesTest::explained, PromisesTest::meeting, PromisesTest::knows, PromisesTest::common,
            PromisesTest::since, PromisesTest::seed, PromisesTest::voice, PromisesTest::trace,
            PromisesTest::sheet, PromisesTest::put, PromisesTest::move, PromisesTest::reads,
            PromisesTest::judge, PromisesTest::image, PromisesTest::restore, PromisesTest::tell,
            PromisesTest::check, PromisesTest::count, PromisesTest::told,
        };
        for (Runnable one : all) {
            promise++;
            one.run();
        }
        System.out.println(wrong == 0 ? promise + " promises are kept" : wrong + " answers are not as due");
        if (wrong != 0) {
            System.exit(1);
        }
    }

    private static void newObject() {
        ChapterLoan x = new ChapterLoan();
        for (int what = 0; what <= 8; what++) {
            due("count(" + what + ")", x.count(what), 0);
        }
        due("count(9)", x.count(9), 1);
        for (int k = 1; k <= 5; k++) {
            due("told(" + k + ")", x.told(k), 0);
        }
        due("ofFact", x.ofFact(0, 0), BEYOND);
        due("ofDebtor", x.ofDebtor(0, 0), BEYOND);
        due("law(0)", x.law(0, 0, 0, 0), 10);
        due("reads(0)", x.reads(0), NONE);
        due("told(2)", x.told(2), 1);
        due("restore", x.restore(), NONE);
        due("knows", x.knows(0, 999), 0);
    }

    private static void fact() {
        ChapterLoan x = new ChapterLoan();
        due("itself", x.fact(1, 0), BEYOND);
        due("later ones", x.fact(254, 31), 0);
        due("itself", x.fact(2, 0), BEYOND);
        due("needs below", x.fact(-1, 0), BEYOND);
        due("needs above", x.fact(256, 0), BEYOND);
        due("needs far above", x.fact(MAX, 0), BEYOND);
        due("needs far below", x.fact(MIN, 0), BEYOND);
        due("witnesses below", x.fact(0, -1), BEYOND);
        due("witnesses above", x.fact(0, 32), BEYOND);
        due("none made", x.count(0), 1);
        for (int i = 1; i < 8; i++) {
            due("fact", x.fact(i == 7 ? 127 : 0, 0), i);
        }
        due("the ninth", x.fact(255, 31), FULL);
        due("BEYOND ahead of FULL", x.fact(256, 0), BEYOND);
        due("eight", x.count(0), 8);
        due("no clash", x.ofFact(0, 1), 0);
        due("no explaining", x.ofFact(0, 2), 0);
    }

    private static void clash() {
        ChapterLoan x = town(3);
        due("at first", x.clash(0, 2, 1), 0);
        due("both ways", x.ofFact(0, 1) * 8 + x.ofFact(2, 1), 33);
        due("again, the other way", x.clash(2, 0, 1), 1);
        due("off", x.clash(2, 0, 0), 1);
        due("off both ways", x.ofFact(0, 1) + x.ofFact(2, 1), 0);
        due("off again", x.clash(0, 2, 0), 0);
        due("itself", x.clash(1, 1, 1), BEYOND);
        due("no such one", x.clash(3, 0, 1), BEYOND);
        due("no such other", x.clash(0, -1, 1), BEYOND);
        due("v above", x.clash(0, 1, 2), BEYOND);
        due("v below", x.clash(0, 1, -1), BEYOND);
        due("nothing done", x.ofFact(0, 1), 0);
    }

    private static void explain() {
        ChapterLoan x = town(3);
        due("at first", x.explain(0, 9, 2), 0);
        due("BY", x.ofFact(0, 3), 2);
        due("as it was", x.explain(0, 1, 1), 9);
        due("WITHIN", x.ofFact(0, 2), 1);
        due("BY itself", x.explain(0, 1, 0), BEYOND);
        due("BY no such one", x.explain(0, 1, 3), BEYOND);
        due("BY below", x.explain(0, 1, -1), BEYOND);
        due("WITHIN above", x.explain(0, 10, 1), BEYOND);
        due("WITHIN below", x.explain(0, -1, 1), BEYOND);
        due("no such FACT", x.explain(3, 1, 1), BEYOND);
        due("as it was yet", x.ofFact(0, 2), 1);
        due("0: BY doesn't matter", x.explain(0, 0, 0), 1);
        due("0: BY far away", x.explain(0, 0, MIN), 0);
        due("no such FACT with 0", x.explain(-1, 0, 0), BEYOND);
    }

    private static void ofFact() {
        ChapterLoan x = new ChapterLoan();
        x.fact(4, 21);
        x.fact(0, 0);
        x.fact(0, 7);
        x.clash(0, 1, 1);
        x.explain(0, 3, 2);
        int[] want = {4, 2, 3, 2, 21, 0};
        for (int what = 0; what <= 5; what++) {
            due("ofFact(0, " + what + ")", x.ofFact(0, what), want[what]);
        }
        due("BY with WITHIN 0", x.ofFact(1, 3), -1);
        x.explain(0, 0, 2);
        due("BY with WITHIN 0 again", x.ofFact(0, 3), -1);
        x.debtor(0, 0);
        x.debtor(0, 0);
        x.tells(0, 2);
        due("in one BOOK", x.ofFact(2, 5), 1);
        x.tells(1, 2);
        due("in two BOOKS", x.ofFact(2, 5), 2);
        due("what above", x.ofFact(0, 6), BEYOND);
        due("what below", x.ofFact(0, -1), BEYOND);
        due("FACT above", x.ofFact(3, 0), BEYOND);
        due("FACT below", x.ofFact(-1, 0), BEYOND);
    }

    private static void debtor() {
        ChapterLoan x = new ChapterLoan();
        due("km above", x.debtor(70, 0), BEYOND);
        due("km below", x.debtor(-1, 0), BEYOND);
        due("DEBT above", x.debtor(0, 10000), BEYOND);
        due("DEBT below", x.debtor(0, -1), BEYOND);
        due("the least", x.debtor(0, 0), 0);
        due("the most", x.debtor(69, 9999), 1);
        due("KIND", x.ofDebtor(1, 0), 6);
        due("m", x.ofDebtor(1, 1), 9);
        due("DEBT", x.ofDebtor(1, 2), 9999);
        due("third", x.debtor(47, 5), 2);
        due("fourth", x.debtor(1, 5), 3);
        due("the fifth", x.debtor(0, 0), FULL);
        due("BEYOND ahead of FULL", x.debtor(70, 0), BEYOND);
        due("BEYOND ahead of FULL, too", x.debtor(0, 10000), BEYOND);
        due("four", x.count(1), 4);
    }

    private static void ofDebtor() {
        ChapterLoan x = new ChapterLoan();
        for (int needs : new int[] {0, 1, 3, 0, 0}) {
            x.fact(needs, 0);
        }
        x.clash(0, 3, 1);
        x.explain(0, 9, 4);
        x.debtor(4, 60);
        x.tells(0, 0);
        int[] want = {0, 4, 50, 1, 1, 0, 1, 1, 18, 10 - 5 - 50};
        for (int what = 0; what <= 9; what++) {
            due("ofDebtor(0, " + what + ")", x.ofDebtor(0, what), want[what]);
        }
        due("what above", x.ofDebtor(0, 10), BEYOND);
        due("what below", x.ofDebtor(0, -1), BEYOND);
        due("DEBTOR above", x.ofDebtor(1, 0), BEYOND);
        due("DEBTOR below", x.ofDebtor(-1, 0), BEYOND);
        due("BROKEN", broken().ofDebtor(0, 5), 1);
        due("TRUST is held", town(0, 0).lend(0, 999) + 0, 1099);
        ChapterLoan y = town(0, 0);
        y.lend(0, 999);
        due("TRUST is held", y.ofDebtor(0, 9), -999);
        mayTellByKinds();
        dueByKinds();
    }

    /** BOOK of 0: FACT 6, of 1: FACTS 0, 1. 1, 2, 3 need 1, 2, 3 that are not there, 5 needs 6 and 7. */
    private static void mayTellByKinds() {
        ChapterLoan x = new ChapterLoan();
        for (int needs : new int[] {0, 1, 3, 7, 0, 192, 0, 0}) {
            x.fact(needs, 0);
        }
        x.debtor(0, 0);
        x.debtor(0, 0);
        x.tells(0, 6);
        x.tells(1, 0);
        x.tells(1, 1);
        x.clash(6, 4, 1);
        int[][] want = {
            {0, 1 + 128}, {10, 1 + 2 + 128}, {40, 1 + 2 + 128}, {47, 1 + 2 + 128},
            {20, 1 + 128}, {21, 1 + 2 + 32 + 128}, {22, 1 + 2 + 4 + 32 + 128}, {23, 1 + 128},
            {50, 128}, {51, 1 + 32 + 128}, {57, 1 + 2 + 32}, {58, 1 + 2 + 4 + 32 + 128},
            {30, 1 + 16 + 128}, {39, 1 + 16 + 128}, {60, 1 + 128}, {61, 1 + 16 + 128},
        };
        for (int[] row : want) {
            x.become(0, row[0]);
            due("MAY TELL of " + row[0], x.ofDebtor(0, 8), row[1]);
        }
        x.become(0, 10);
        x.clash(6, 1, 1);
        due("read, but it doesn't go with the BOOK", x.ofDebtor(0, 8), 1 + 128);
    }

    private static void dueByKinds() {
        ChapterLoan x = town(0, 0);
        int[][] want = {
            {5, 1}, {15, 1}, {25, 1}, {35, 2}, {34, 2}, {40, 1}, {41, 2}, {48, 1}, {49, 2}, {55, 1},
            {60, 2}, {61, 1}, {68, 2}, {69, 1},
        };
        for (int[] row : want) {
            x.become(0, row[0]);
            due("DUE of " + row[0], x.ofDebtor(0, 6), row[1]);
        }
    }

    private static void book() {
        ChapterLoan x = town(3, 0);
        x.tells(0, 2);
        x.weeks(2);
        due("first", x.book(0, 0, 0), 2);
        due("its WEEK", x.book(0, 0, 1), 0);
        due("second", x.book(0, 1, 0), 0);
        due("its WEEK", x.book(0, 1, 1), 0);
        due("third", x.book(0, 2, 0), 1);
        due("its WEEK", x.book(0, 2, 1), 1);
        due("a fourth", x.book(0, 3, 0), NONE);
        due("below", x.book(0, -1, 0), NONE);
        due("far", x.book(0, MAX, 1), NONE);
        due("what above", x.book(0, 0, 2), BEYOND);
        due("what below", x.book(0, 0, -1), BEYOND);
        due("DEBTOR", x.book(1, 0, 0), BEYOND);
        due("BEYOND ahead of NONE", x.book(0, 9, 2), BEYOND);
    }

    private static void become() {
        ChapterLoan x = town(1, 34);
        due("was", x.become(0, 69), 3);
        due("KIND", x.ofDebtor(0, 0), 6);
        due("m", x.ofDebtor(0, 1), 9);
        due("km above", x.become(0, 70), BEYOND);
        due("km below", x.become(0, -1), BEYOND);
        due("DEBTOR", x.become(1, 0), BEYOND);
        due("was yet", x.become(0, 0), 6);
        due("a BROKEN one, too", broken().become(0, 10), 0);
    }

    private static void as() {
        int[] above = {-1, 0, 0, 0, 1, 2, 3};
        ChapterLoan x = town(0, 0);
        for (int kind = 0; kind < 7; kind++) {
            x.become(0, 10 * kind + 7);
            for (int asked = 0; asked < 7; asked++) {
                boolean is = asked == kind || asked == above[kind] || asked == 0;
                due(kind + " as " + asked, x.as(0, asked), is ? 7 : KIND);
            }
        }
        due("KIND above", x.as(0, 7), BEYOND);
        due("KIND below", x.as(0, -1), BEYOND);
        due("DEBTOR", x.as(1, 0), BEYOND);
    }

    private static void lend() {
        ChapterLoan x = town(0, 0);
        due("one", x.lend(0, 1), 101);
        due("most", x.lend(0, 999), 1100);
        for (int i = 0; i < 8; i++) {
            x.lend(0, 999);
        }
        due("9092 and 907", x.lend(0, 906), 9998);
        due("9999 at most", x.lend(0, 2), 9999);
        due("9999 yet", x.lend(0, 999), 9999);
        due("none", x.lend(0, 0), BEYOND);
        due("too much", x.lend(0, 1000), BEYOND);
        due("DEBTOR", x.lend(1, 1), BEYOND);
        ChapterLoan y = broken();
        due("BROKEN", y.lend(0, 1), STATE);
        due("BEYOND ahead of STATE", y.lend(0, 0), BEYOND);
        due("DEBT as it was", y.ofDebtor(0, 2), 90);
    }

    private static void tells() {
        ChapterLoan x = town(3, 0, 10, 50, 40);
        x.fact(2, 0);
        due("DEBTOR pays the TEXT", x.tells(0, 0), 90);
        due("PLAGIARIST half", x.tells(1, 0), 95);
        due("SEER twice", x.tells(2, 1), 80);
        due("TWIN half", x.tells(3, 0), 95);
        due("in the BOOK", x.tells(0, 0), STATE);
        due("MAY not", x.tells(0, 3), STATE);
        due("no such FACT", x.tells(0, 4), BEYOND);
        due("FACT below", x.tells(0, -1), BEYOND);
        due("DEBTOR", x.tells(4, 0), BEYOND);
        due("told in this WEEK", x.book(0, 0, 1), 0);
        text(x, 0, "15");
        due("half is cut", x.tells(1, 1), 88);
        text(x, 0, "f*100+d");
        due("0 at least", x.tells(1, 2), 0);
        due("without a DEBT, too", x.tells(1, 3), 0);
        due("BROKEN", broken().tells(0, 0), STATE);
        due("BEYOND ahead of STATE", broken().tells(0, 1), BEYOND);
        paidByNames();
    }

    private static void paidByNames() {
        ChapterLoan x = town(4, 0);
        x.weeks(3);
        x.lend(0, 930);
        due("DEBT", x.ofDebtor(0, 2), 1000);
        text(x, 0, "f*100+w*10+d%7");
        due("FACT 3, WEEK 3, 1000 % 7", x.tells(0, 3), 1000 - 300 - 30 - 6);
        due("its WEEK", x.book(0, 3, 1), 3);
        ChapterLoan y = town(2, 50, 0);
        text(y, 0, "9999");
        y.lend(0, 999);
        y.lend(0, 999);
        due("SEER twice what is held", y.tells(0, 1), 2098 - 1998);
        ChapterLoan z = town(1, 0);
        text(z, 0, "1-9");
        due("nothing is paid below 0", z.tells(0, 0), 100);
    }

    private static void pardon() {
        ChapterLoan x = broken();
        due("one was told", x.pardon(0), 1);
        for (int what = 2; what <= 5; what++) {
            due("ofDebtor(0, " + what + ")", x.ofDebtor(0, what), 0);
        }
        due("not BROKEN", x.pardon(0), STATE);
        due("DEBTOR", x.pardon(1), BEYOND);
        due("below", x.pardon(-1), BEYOND);
        due("tells again", x.tells(0, 0), 0);
        due("nothing known of the BOOK that was", x.book(0, 0, 1), 2);
    }

    private static void weeks() {
        ChapterLoan x = town(3, 0, 30, 40);
        due("none is BROKEN", x.weeks(1), 0);
        due("a chapter a WEEK", x.ofDebtor(0, 4), 1);
        due("two a WEEK", x.ofDebtor(1, 4), 3);
        due("they pay", x.count(4), 90 + 80 + 95);
        due("the GHOST finds just one more, then none", x.weeks(1), 1);
        due("it kept that one", x.ofDebtor(1, 4), 7);
        due("the others break two WEEKS on", x.weeks(2), 3);
        due("WEEK", x.count(2), 4);
        due("none", x.weeks(0), BEYOND);
        due("too many", x.weeks(61), BEYOND);
        due("far below", x.weeks(MIN), BEYOND);
        overdueInWeeks();
        freeInWeeks();
        lastWeek();
    }

    private static void overdueInWeeks() {
        ChapterLoan x = town(3, 0);
        x.explain(0, 1, 2);
        due("FACT 0 isn't OVERDUE yet", x.weeks(1), 0);
        due("it is OVERDUE", x.weeks(1), 1);
        due("FACT 1 was told and paid", x.ofDebtor(0, 2), 80);
        ChapterLoan y = town(3, 0);
        y.explain(0, 2, 2);
        due("explained in the last WEEK", y.weeks(3), 0);
        ChapterLoan z = new ChapterLoan();
        z.fact(0, 0);
        z.fact(0, 0);
        z.fact(0, 0);
        z.debtor(0, 20);
        z.explain(0, 1, 2);
        z.weeks(2);
        due("BROKEN without a DEBT", z.ofDebtor(0, 5) * 100 + z.ofDebtor(0, 2), 100);
    }

    private static void freeInWeeks() {
        ChapterLoan x = new ChapterLoan();
        x.fact(0, 0);
        x.fact(0, 0);
        x.debtor(30, 10);
        x.explain(0, 2, 1);
        x.weeks(1);
        due("no second chapter without a DEBT", x.ofDebtor(0, 3), 1);
        due("without a DEBT nothing breaks", x.weeks(9), 0);
        due("though it is OPEN", x.ofDebtor(0, 7), 1);
        due("a new DEBT", x.lend(0, 5), 5);
        due("explained now", x.weeks(1), 0);
        ChapterLoan w = new ChapterLoan();
        w.fact(0, 0);
        w.fact(0, 0);
        w.fact(0, 0);
        w.debtor(0, 1);
        w.debtor(30, 11);
        w.weeks(1);
        due("a DEBT of 1 is one", w.ofDebtor(0, 2) * 10 + w.ofDebtor(0, 3), 1);
        due("1 that is left, too", w.ofDebtor(1, 2) * 10 + w.ofDebtor(1, 3), 2);
        ChapterLoan y = new ChapterLoan();
        y.fact(2, 0);
        y.fact(0, 0);
        y.debtor(10, 9);
        y.debtor(0, 10);
        y.weeks(1);
        due("by numbers: 0 tells 1 first", y.ofDebtor(0, 4) * 10 + y.ofDebtor(1, 4), 22);
        due("then 0, which it may by then", y.weeks(1), 0);
        due("both", y.ofDebtor(0, 4), 3);
    }

    private static void lastWeek() {
        ChapterLoan x = new ChapterLoan();
        for (int i = 0; i < 16; i++) {
            x.weeks(60);
        }
        due("960", x.count(2), 960);
        due("above 999", x.weeks(40), STATE);
        due("BEYOND ahead of STATE", x.weeks(61), BEYOND);
        due("to 999", x.weeks(39), 0);
        due("999", x.count(2), 999);
        due("no more", x.weeks(1), STATE);
        due("by draws, too", x.loose(1), STATE);
        due("z as it was", x.count(9), 1);
        ChapterLoan y = new ChapterLoan();
        for (int i = 0; i < 16; i++) {
            y.weeks(60);
        }
        due("above 999 by draws", y.loose(40), STATE);
        due("BEYOND ahead of STATE", y.loose(61), BEYOND);
        due("to 999 by draws", y.loose(39), 0);
        due("999 by draws", y.count(2), 999);
    }

    private static void loose() {
        ChapterLoan x = new ChapterLoan();
        due("nobody", x.loose(1), 0);
        int z = 1;
        z = (z * 1103515245 + 12345) * 1103515245 + 12345;
        due("two draws", x.count(9), z);
        due("a WEEK", x.count(2), 1);
        ChapterLoan y = town(8, 0, 0, 0, 0);
        int one = 1103515245 + 12345;
        int two = one * 1103515245 + 12345;
        int lent = (two >>> 8) % 50;
        int who = (one >>> 8) % 4;
        y.loose(1);
        for (int d = 0; d < 4; d++) {
            due("lent to " + who, y.ofDebtor(d, 2), d == who ? 90 + lent : 90);
        }
        due("none", y.loose(0), BEYOND);
        due("too many", y.loose(61), BEYOND);
        due("many", y.loose(60), 4);
        ChapterLoan b = broken();
        b.loose(60);
        due("nothing is lent to a BROKEN one", b.ofDebtor(0, 2), 90);
        ChapterLoan c = new ChapterLoan();
        c.fact(0, 0);
        text(c, 0, "0");
        for (int i = 0; i < 4; i++) {
            c.debtor(0, 9999);
        }
        c.loose(1);
        due("9999 at most", c.count(4), 4 * 9999);
    }

    private static void then() {
        ChapterLoan x = town(3, 0, 30);
        x.explain(0, 9, 2);
        int[][] want = {{0, 100, 0, 0, 0, 0}, {2, 80, 2, 3, 0, 1}, {4, 70, 3, 7, 1, 0}};
        for (int[] row : want) {
            due("DEBT", x.then(row[0], 0, 2), row[1]);
            due("BOOK", x.then(row[0], 0, 3), row[2]);
            due("as bits", x.then(row[0], 0, 4), row[3]);
            due("BROKEN", x.then(row[0], 0, 5), row[4]);
            due("OPEN", x.then(row[0], 0, 7), row[5]);
        }
        due("WEEK as it was", x.count(2), 0);
        due("BOOK as it was", x.ofDebtor(0, 3), 0);
        due("60", x.then(60, 1, 2), 70);
        due("61", x.then(61, 1, 2), BEYOND);
        due("below", x.then(-1, 1, 2), BEYOND);
        due("DEBTOR", x.then(1, 2, 2), BEYOND);
        for (int what : new int[] {MIN, -1, 0, 1, 6, 8, 9, MAX}) {
            due("what " + what, x.then(1, 0, what), BEYOND);
        }
        ChapterLoan y = town(8);
        for (int i = 0; i < 17; i++) {
            y.weeks(i == 0 ? 39 : 60);
        }
        y.weeks(1);
        y.debtor(0, 5000);
        text(y, 0, "w-900");
        int week = y.count(2);
        due("beyond 999, too", y.then(8, 0, 2), 5000 - 8 * (week - 900) - 28);
    }

    private static void feed() {
        ChapterLoan x = new ChapterLoan();
        due("no bytes", x.feed(0, 0), BEYOND);
        due("nine", x.feed(0, 9), BEYOND);
        due("below", x.feed(0, MIN), BEYOND);
        for (int i = 1; i <= 6; i++) {
            due("eight", x.feed(-1, 8), 8 * i);
        }
        due("51", x.feed(0, 3), FULL);
        due("BEYOND ahead of FULL", x.feed(0, 9), BEYOND);
        due("50", x.feed(0, 2), 50);
        due("one more", x.feed(0, 1), FULL);
        due("50 yet", x.count(6), 50);
        ChapterLoan y = new ChapterLoan();
        y.feed('1' | '+' << 8 | (long) '2' << 16 | (long) 'x' << 24, 3);
        y.feed((long) '*' | (long) '4' << 8 | -1L << 16, 2);
        due("the lowest byte first", y.text(0), 1);
        due("1+2*4", y.law(0, 0, 0, 0), 9);
        ChapterLoan z = new ChapterLoan();
        z.feed((long) '7' << 56 | 0x2b312b312b312bL | 0x31L << 56, 8);
        due("all eight bytes are there", z.text(0), -10);
    }

    private static void text() {
        ChapterLoan x = new ChapterLoan();
        due("an empty TAPE", x.text(0), -10);
        String[] right = {"(1|0)", "(0&1|2)+1", "1", "9999", "f", "!!!!!w", "(((((d)))))", "!(!(!f))", "!f+!!!!!w", "1<2&3>4|5=6", "(1<2)<3",
            "1+2-3*4/5%6", "((1<2)=(3>4))|f", "!1<!2", "0000"};
        for (String one : right) {
            due(one, text(x, 0, one), 1);
            due("THE TAPE behind it", x.count(6), 0);
        }
        Object[][] faults = {
            {"12345", 4}, {"1<2<3", 3}, {"1<2=3", 3}, {"!!!!!!w", 5}, {"((((((d", 5}, {"!(!(!(f", 5}, {"o", 0}, {"n", 0},
            {"f+", 2}, {"f w", 1}, {"(f", 2}, {"(f))", 3}, {"()", 1}, {")", 0}, {"1f", 1}, {"f1", 1}, {"ff", 1}, {"-1", 0},
            {"1+-1", 2}, {"!", 1}, {"1!", 1}, {"1(", 1}, {"1<2+3>4", 5}, {"(1<2>3)", 4}, {"1&", 2}, {"F", 0}, {"1&&2", 2},
            {"(12345)", 5}, {"f\u00ff", 1}, {"\u0000", 0},
        };
        for (Object[] row : faults) {
            due(row[0] + "", text(x, 0, (String) row[0]), -10 - (Integer) row[1]);
            due("THE TAPE behind it", x.count(6), 0);
        }
        due("the one ahead stays", x.law(0, 5, 5, 5), 0);
        due("no ERROR", x.told(1) + x.told(2) + x.told(3) + x.told(4) + x.told(5), 0);
        due("TRUST has other NAMES", text(x, 1, "d+o+n"), 1);
        due("not these", text(x, 1, "f"), -10);
        due("nor these", text(x, 1, "d+w"), -12);
        feed(x, "7");
        due("USE above", x.text(2), BEYOND);
        due("USE below", x.text(-1), BEYOND);
        due("THE TAPE stays", x.count(6), 1);
        due("it is whole yet", x.text(0), 1);
        due("in place of the one ahead", x.law(0, 0, 0, 0), 7);
        String fifty = "1+1+1+1+1+1+1+1+1+1+1+1+1+1+1+1+1+1+1+1+1+1+1+1+10";
        due("50 bytes", text(x, 0, fifty), 1);
        due("34", x.law(0, 0, 0, 0), 34);
        due("50 that end too early", text(x, 0, fifty.substring(0, 49) + "*"), -60);
    }

    private static int worth(String text, int a, int b, int c) {
        ChapterLoan x = new ChapterLoan();
        due(text, text(x, 1, text), 1);
        return x.law(1, a, b, c);
    }

    private static void law() {
        ChapterLoan x = new ChapterLoan();
        due("PAY without a TEXT", x.law(0, 7, 8, 9), 10);
        due("TRUST without a TEXT", x.law(1, 7, 2, 9), 90 - 10 - 7);
        due("USE above", x.law(2, 0, 0, 0), BEYOND);
        due("USE below", x.law(-1, 0, 0, 0), BEYOND);
        text(x, 0, "f*100+w*10+d");
        due("NAMES in order", x.law(0, 1, 2, 3), 123);
        due("999 at most", x.law(0, 99, 0, 0), 999);
        due("0 at least", x.law(0, -1, 0, 0), 0);
        text(x, 1, "d*100+o*10+n");
        due("NAMES in order", x.law(1, 1, 2, 3), 123);
        due("999 at most", x.law(1, 99, 0, 0), 999);
        due("-999 at least", x.law(1, -99, 0, 0), -999);
        due("cut", worth("d/o", -7, 2, 0), -3);
        due("the rest", worth("d%o", -7, 2, 0), -1);
        due("/ by 0", worth("d/o", -7, 0, 0), 0);
        due("% by 0", worth("d%o", -7, 0, 0), 0);
        due("the least by -1", worth("d/o", MIN, -1, 0), -999);
        due("its rest", worth("d%o", MIN, -1, 0), 0);
        due("wraps", worth("d*d+n", 65536, 0, 5), 5);
        due("wraps above", worth("d+1", MAX, 0, 0), -999);
        due("from the left", worth("d-o-n", 10, 3, 2), 5);
        due("from the left", worth("d/o*n", 10, 3, 2), 6);
        due("* ahead of +", worth("d+o*n", 1, 2, 3), 7);
        due("brackets", worth("(d+o)*n", 1, 2, 3), 9);
        due("<", worth("d<o", 1, 2, 0) * 10 + worth("d<o", 2, 2, 0), 10);
        due(">", worth("d>o", 2, 1, 0) * 10 + worth("d>o", 2, 2, 0), 10);
        due("=", worth("d=o", 2, 2, 0) * 10 + worth("d=o", 2, 1, 0), 10);
        due("far apart", worth("d<o", MIN, MAX, 0), 1);
        due("&", worth("d&o", 5, -3, 0) * 10 + worth("d&o", 5, 0, 0), 10);
        due("|", worth("d|o", 0, -3, 0) * 10 + worth("d|o", 0, 0, 0), 10);
        due("& ahead of |", worth("d|o&n", 1, 0, 0), 1);
        due("!", worth("!d", 5, 0, 0) * 10 + worth("!!d", 5, 0, 0), 1);
        due("! of one alone", worth("!d+o", 0, 3, 0), 4);
        due("comparing ahead of &", worth("d<2&o>1", 1, 2, 0), 1);
        due("+ ahead of comparing", worth("d+1=o", 1, 2, 0), 1);
    }

    private static void served(ChapterLoan x, int debtor, int... want) {
        due("served: how many", x.served(debtor, -1), want.length);
        for (int i = 0; i < 8; i++) {
            due("served: at " + i, x.served(debtor, i), i < want.length ? want[i] : NONE);
        }
    }

    private static void closed(ChapterLoan x, int debtor, int... want) {
        due("closed: how many", x.closed(debtor, -1), want.length);
        for (int i = 0; i < 8; i++) {
            due("closed: at " + i, x.closed(debtor, i), i < want.length ? want[i] : NONE);
        }
    }

    private static void served() {
        served(town(0, 0), 0);
        served(town(8, 0), 0, 0, 1, 2, 3, 4, 5, 6, 7);
        ChapterLoan x = town(4, 0, 30);
        x.explain(0, 1, 3);
        served(x, 0, 0, 3, 1, 2);
        x.clash(2, 3, 1);
        served(x, 0, 0, 3, 1);
        served(x, 1, 0, 3, 1, 2);
        x.clash(0, 3, 1);
        served(x, 0, 1, 2, 0);
        x.tells(0, 1);
        served(x, 0, 2, 0);
        due("nothing is told", x.ofDebtor(0, 3), 1);
        due("DEBT doesn't matter", x.ofDebtor(0, 2), 90);
        due("what above", x.served(0, 8), BEYOND);
        due("what below", x.served(0, -2), BEYOND);
        due("DEBTOR", x.served(2, -1), BEYOND);
        due("BROKEN", broken().served(0, -1), STATE);
        due("BEYOND ahead of STATE", broken().served(0, 8), BEYOND);
        ChapterLoan y = town(3, 0, 10);
        y.explain(0, 1, 2);
        y.tells(0, 0);
        y.weeks(1);
        served(y, 0, 2);
        servedLater();
        ChapterLoan z = new ChapterLoan();
        z.fact(0, 0);
        z.fact(4, 0);
        z.fact(0, 0);
        z.fact(32, 0);
        z.debtor(0, 0);
        z.debtor(10, 0);
        z.explain(2, 1, 1);
        served(z, 0, 0, 2, 1);
        z.become(0, 31);
        z.tells(0, 2);
        served(z, 1, 0, 2, 1);
        z.become(0, 21);
        z.tells(0, 3);
        served(z, 1, 0, 2, 1, 3);
    }

    private static void servedLater() {
        ChapterLoan x = town(4, 0);
        x.weeks(1);
        x.explain(0, 3, 2);
        x.explain(1, 1, 3);
        served(x, 0, 1, 3, 2);
        x.weeks(1);
        served(x, 0, 3, 2);
        x.explain(0, 2, 2);
        served(x, 0);
        due("two are due at once", x.closed(0, -1), NONE);
        servedOtherwise();
        ChapterLoan y = new ChapterLoan();
        y.fact(192, 0);
        y.fact(128, 0);
        y.fact(0, 0);
        y.debtor(21, 0);
        served(y, 0, 1, 2);
        y.become(0, 52);
        served(y, 0, 0, 1);
        y.become(0, 0);
        served(y, 0, 2);
    }

    /** The same FACTS in another order: 0 first leaves too few WEEKS for what explains it. */
    private static void servedOtherwise() {
        ChapterLoan x = town(3, 0);
        x.fact(6, 0);
        x.fact(0, 0);
        x.explain(0, 2, 3);
        x.explain(1, 9, 4);
        served(x, 0, 1, 0, 2, 3, 4);
    }

    private static void closed() {
        closed(town(0, 0), 0);
        closed(town(8, 0), 0);
        ChapterLoan x = town(6, 0);
        x.explain(0, 3, 5);
        closed(x, 0);
        x.tells(0, 0);
        closed(x, 0, 5);
        x.explain(5, 9, 1);
        closed(x, 0, 1, 5);
        x.explain(1, 2, 4);
        closed(x, 0, 1, 4, 5);
        x.explain(1, 1, 4);
        closed(x, 0, 1, 4, 5);
        x.explain(4, 1, 3);
        closed(x, 0, 1, 4, 3, 5);
        x.explain(0, 1, 5);
        closed(x, 0, 3, 5, 1, 4);
        due("nothing is told", x.ofDebtor(0, 3), 1);
        x.clash(0, 5, 1);
        due("there is none", x.closed(0, -1), NONE);
        due("nor its first", x.closed(0, 0), NONE);
        due("what above", x.closed(0, 8), BEYOND);
        due("what below", x.closed(0, -2), BEYOND);
        due("DEBTOR", x.closed(1, -1), BEYOND);
        due("BROKEN", broken().closed(0, -1), STATE);
        due("BEYOND ahead of STATE", broken().closed(0, 8), BEYOND);
        ChapterLoan z = town(4, 0);
        z.tells(0, 3);
        z.explain(3, 5, 0);
        z.explain(0, 1, 1);
        z.explain(2, 9, 3);
        closed(z, 0, 0, 1);
        z.explain(0, 1, 3);
        closed(z, 0, 0);
        ChapterLoan y = town(2, 0);
        y.explain(0, 1, 1);
        y.tells(0, 0);
        y.weeks(1);
        y.pardon(0);
        y.explain(1, 1, 0);
        due("told all", y.ofDebtor(0, 4), 3);
        closed(y, 0);
    }

    private static void clashOf() {
        ChapterLoan x = town(8);
        x.clash(6, 7, 1);
        x.clash(2, 6, 1);
        x.clash(5, 2, 1);
        due("the first two", x.clashOf(255), 25);
        due("5 isn't there", x.clashOf(255 - 32), 26);
        due("2 isn't there", x.clashOf(255 - 4), 67);
        due("none do", x.clashOf(255 - 4 - 64), NONE);
        due("one alone", x.clashOf(64), NONE);
        due("the empty set", x.clashOf(0), NONE);
        due("below", x.clashOf(-1), BEYOND);
        due("above", x.clashOf(256), BEYOND);
        due("a FACT that there isn't", town(2).clashOf(4), BEYOND);
        due("FACTS that there are", town(2).clashOf(3), NONE);
        due("none at all", town(0).clashOf(0), NONE);
    }

    private static void joined() {
        ChapterLoan x = town(4, 0, 30, 0);
        due("empty BOOKS", x.joined(0, 1), 0);
        x.tells(0, 0);
        x.tells(1, 1);
        x.tells(1, 2);
        due("both", x.joined(0, 1), 7);
        due("the other way", x.joined(1, 0), 7);
        x.clash(1, 2, 1);
        due("a CLASH inside of one", x.joined(0, 1), 7);
        x.clash(0, 2, 1);
        due("two CLASH", x.joined(0, 1), NONE);
        due("two CLASH", x.joined(1, 0), NONE);
        due("with an empty BOOK", x.joined(2, 1), 6);
        due("one twice", x.joined(1, 1), BEYOND);
        due("no such one", x.joined(3, 1), BEYOND);
        due("no such other", x.joined(1, -1), BEYOND);
    }

    private static void rated() {
        ChapterLoan x = town(8, 0, 40);
        x.weeks(2);
        due("80 by 10 a WEEK: 6 are left", x.rated(0, 1, 0), NONE);
        x.lend(1, 1);
        text(x, 0, "20");
        due("one a WEEK", x.rated(0, 1, 0), 4);
        due("two a WEEK", x.rated(0, 2, 0), 2);
        due("three", x.rated(0, 3, 0), 2);
        due("four", x.rated(0, 4, 0), 1);
        due("the best", x.rated(0, 1, 1), 4);
        due("the best, whatever r is", x.rated(0, 4, 1), 4);
        text(x, 0, "40");
        due("the least of several", x.rated(0, 4, 1), 2);
        text(x, 0, "1");
        due("by none", x.rated(0, 1, 1), NONE);
        due("nothing is told", x.ofDebtor(0, 3), 2);
        due("r above", x.rated(0, 5, 0), BEYOND);
        due("r below", x.rated(0, 0, 1), BEYOND);
        due("what above", x.rated(0, 1, 2), BEYOND);
        due("what below", x.rated(0, 1, -1), BEYOND);
        due("DEBTOR", x.rated(2, 1, 0), BEYOND);
        ChapterLoan y = new ChapterLoan();
        y.debtor(0, 0);
        due("no DEBT now", y.rated(0, 3, 0), 0);
        due("no DEBT now: the least", y.rated(0, 3, 1), 1);
        ChapterLoan z = town(2, 10, 0);
        z.explain(0, 1, 1);
        text(z, 0, "100");
        due("another one goes by its own DUE", z.rated(1, 4, 0), 1);
        due("half is paid", z.rated(0, 1, 0), 2);
        due("BROKEN", broken().rated(0, 1, 0), NONE);
        ratedBeyondTheBook();
    }

    /** More a WEEK is not always sooner: FACT 0 must be explained by 7, which is told last. */
    private static void ratedBeyondTheBook() {
        ChapterLoan x = town(8, 0);
        x.explain(0, 2, 7);
        text(x, 0, "13");
        due("1 a WEEK breaks", x.rated(0, 1, 0), NONE);
        due("2 a WEEK break", x.rated(0, 2, 0), NONE);
        due("3 a WEEK don't", x.rated(0, 3, 0), 3);
        due("4 a WEEK", x.rated(0, 4, 0), 2);
        text(x, 0, "40");
        due("as soon with less", x.rated(0, 1, 1), 3);
    }

    private static void explained() {
        ChapterLoan x = new ChapterLoan();
        x.fact(2, 0);
        x.fact(0, 0);
        x.fact(0, 0);
        x.clash(1, 2, 1);
        x.debtor(63, 100);
        due("missing", x.explained(0, 0), NONE);
        due("no such SHEET", x.explained(0, 4), BEYOND);
        due("no such DEBTOR", x.explained(1, 0), BEYOND);
        due("SHEET below", x.explained(0, -1), BEYOND);
        sheet(x, 0);
        due("no numbers", x.explained(0, 0), 0);
        sheet(x, 0, 1, 0);
        due("as a DEBTOR", x.explained(0, 0), 0);
        sheet(x, 0, 1, 0, 2);
        due("as a GHOST", x.explained(0, 0), 3);
        x.become(0, 61);
        sheet(x, 0, 0, 1);
        due("as a DREAMER", x.explained(0, 0), 2);
        sheet(x, 0, 0, 2);
        due("as a SEER, not 1", x.explained(0, 0), 5);
        sheet(x, 0, 2, 0);
        due("by no KIND", x.explained(0, 0), NONE);
        sheet(x, 0, 1, 0, 2, 0);
        due("too many", x.explained(0, 0), NONE);
        x.debtor(0, 0);
        x.tells(1, 2);
        sheet(x, 1, 2);
        x.clash(1, 2, 0);
        x.clash(0, 1, 1);
        due("it isn't the first", x.explained(0, 1), NONE);
        x.tells(0, 1);
        sheet(x, 1, 2);
        due("from now on", x.explained(0, 1), 0);
        sheet(x, 1, 1);
        due("not what was told", x.explained(0, 1), NONE);
        due("KIND as it is", x.ofDebtor(0, 0), 6);
        due("BOOK as it is", x.ofDebtor(0, 3), 1);
        due("without a DEBT nothing is told", x.explained(1, 1), NONE);
        ChapterLoan y = new ChapterLoan();
        y.fact(2, 0);
        y.fact(4, 0);
        y.fact(0, 0);
        y.debtor(0, 0);
        y.debtor(0, 50);
        y.become(0, 33);
        y.tells(0, 2);
        y.tells(0, 1);
        y.become(0, 22);
        sheet(y, 0, 1, 2, 0);
        due("not as a PLAGIARIST, which tells 0 as soon as it may", y.explained(1, 0), NONE);
        sheet(y, 0, 1, 0);
        due("as a PLAGIARIST", y.explained(1, 0), 1);
    }

    private static void meeting() {
        ChapterLoan x = new ChapterLoan();
        due("week below", x.meeting(-1, 0, 1), BEYOND);
        due("week above", x.meeting(1000, 0, 1), BEYOND);
        due("FIGURE below", x.meeting(0, -1, 1), BEYOND);
        due("FIGURE above", x.meeting(0, 0, 5), BEYOND);
        due("one twice", x.meeting(0, 3, 3), BEYOND);
        for (int i = 0; i < 12; i++) {
            due("meeting", x.meeting(i % 2 == 0 ? 0 : 999, 0, 4), i);
        }
        due("the 13th", x.meeting(0, 0, 1), FULL);
        due("BEYOND ahead of FULL", x.meeting(0, 1, 1), BEYOND);
        due("twelve", x.count(3), 12);
    }

    /** FACT 0 is told in WEEK 1 (seen by 0), 1 in WEEK 3 (by 1), 2 in WEEK 5 (by 0 and 4). */
    private static ChapterLoan story() {
        ChapterLoan x = new ChapterLoan();
        x.fact(0, 1);
        x.fact(0, 2);
        x.fact(0, 17);
        x.debtor(0, 0);
        x.debtor(30, 0);
        x.weeks(1);
        x.tells(0, 0);
        x.weeks(2);
        x.tells(0, 1);
        x.tells(1, 0);
        x.weeks(2);
        x.tells(1, 2);
        return x;
    }

    private static void knows() {
        ChapterLoan x = story();
        due("nothing yet", x.knows(0, 0), 0);
        due("what was told", x.knows(0, 1), 1);
        due("what was told later", x.knows(0, 5), 5);
        due("the WITNESSES alone", x.knows(4, 999), 4);
        due("no WITNESS", x.knows(3, 999), 0);
        x.meeting(3, 1, 2);
        x.meeting(3, 0, 1);
        x.meeting(2, 3, 0);
        due("numbers in a WEEK: ahead of the second", x.knows(2, 3), 2);
        due("by both ways", x.knows(0, 3) * 10 + x.knows(1, 3), 33);
        due("an earlier WEEK", x.knows(3, 2), 1);
        due("not ahead of the MEETING", x.knows(3, 1), 0);
        due("later ones don't come", x.knows(3, 999), 1);
        x.meeting(4, 2, 1);
        due("by another one", x.knows(2, 4), 3);
        due("not yet", x.knows(2, 3), 2);
        severalMeetings();
        due("FIGURE above", x.knows(5, 0), BEYOND);
        due("FIGURE below", x.knows(-1, 0), BEYOND);
        due("WEEK above", x.knows(0, 1000), BEYOND);
        due("WEEK below", x.knows(0, -1), BEYOND);
    }

    /** MEETINGS made in another order than that of their WEEKS; a FACT told in WEEK 0. */
    private static void severalMeetings() {
        ChapterLoan x = new ChapterLoan();
        x.fact(0, 1);
        x.debtor(0, 0);
        x.debtor(0, 0);
        x.tells(0, 0);
        due("told in WEEK 0", x.knows(0, 0), 1);
        due("common in WEEK 0", x.common(1, 0), 1);
        due("since WEEK 0", x.since(0, 0), 0);
        x.weeks(1);
        x.tells(1, 0);
        due("since WEEK 0, though told again", x.since(0, 0), 0);
        due("known in WEEK 0, though told again", x.knows(0, 0), 1);
        x.meeting(8, 3, 4);
        x.meeting(6, 2, 3);
        x.meeting(4, 1, 2);
        x.meeting(2, 0, 1);
        int[] since = {0, 2, 4, 6, 8};
        for (int figure = 0; figure < 5; figure++) {
            due("since " + figure, x.since(figure, 0), since[figure]);
            due("known to " + figure, x.knows(figure, since[figure]), 1);
            due("not ahead of it to " + figure, x.knows(figure, Math.max(0, since[figure] - 1)), figure == 0 ? 1 : 0);
        }
        x.meeting(0, 4, 0);
        due("met in the WEEK in which it was told", x.since(4, 0), 0);
        due("so 3 has it sooner", x.since(3, 0), 6);
        x.meeting(0, 0, 3);
        due("3 met 0 itself", x.since(3, 0), 0);
    }

    private static void common() {
        ChapterLoan x = story();
        due("one alone", x.common(1, 5), 5);
        due("two", x.common(17, 5), 4);
        due("none", x.common(3, 999), 0);
        x.meeting(5, 0, 1);
        due("as told in a MEETING", x.common(3, 5), 7);
        due("not ahead of it", x.common(3, 4), 0);
        due("all", x.common(31, 999), 0);
        due("the empty set", x.common(0, 5), BEYOND);
        due("above", x.common(32, 5), BEYOND);
        due("WEEK above", x.common(1, 1000), BEYOND);
        due("WEEK below", x.common(1, -1), BEYOND);
    }

    private static void since() {
        ChapterLoan x = story();
        due("as it was told first", x.since(0, 0), 1);
        due("no WITNESS", x.since(2, 0), NONE);
        x.meeting(999, 2, 0);
        due("in the last WEEK", x.since(2, 0), 999);
        x.meeting(7, 0, 2);
        due("an earlier MEETING", x.since(2, 0), 7);
        x.meeting(0, 0, 2);
        due("ahead of what was told", x.since(2, 0), 7);
        x.meeting(7, 2, 3);
        due("the next one of a WEEK", x.since(3, 2), 7);
        due("nobody told it", x.since(3, 1), NONE);
        due("FIGURE above", x.since(5, 0), BEYOND);
        due("FIGURE below", x.since(-1, 0), BEYOND);
        due("FACT above", x.since(0, 3), BEYOND);
        due("FACT below", x.since(0, -1), BEYOND);
        ChapterLoan y = new ChapterLoan();
        y.fact(0, 31);
        due("in no BOOK", y.since(0, 0), NONE);
    }

    private static void seed() {
        ChapterLoan x = new ChapterLoan();
        due("1 at first", x.seed(BEYOND), 1);
        due("any number", x.seed(MAX), BEYOND);
        due("no ERROR", x.told(1), 0);
        due("z", x.count(9), MAX);
        x.seed(77);
        x.loose(1);
        int z = (77 * 1103515245 + 12345) * 1103515245 + 12345;
        due("drawn from", x.seed(0), z);
    }

    private static void voice() {
        ChapterLoan x = new ChapterLoan();
        x.debtor(0, 0);
        x.debtor(0, 0);
        x.debtor(3, 0);
        int n = 2;
        int m = 3;
        int t = 5;
        int owes = t + n;
        int reads = t - m;
        int[][] want = {
            {owes, 2 * owes, reads, 2 * owes ^ reads},
            {owes, 2 * owes - (1 - m), reads, 2 * owes - (1 - m) ^ reads},
            {3 * owes, 6 * owes, reads, 6 * owes ^ reads},
            {owes, 2 * owes, -reads, 2 * owes ^ -reads},
            {owes, 2 * (owes + 1) - (1 - m), reads, 2 * (owes + 1) - (1 - m) ^ reads},
            {3 * owes, 6 * owes, reads, (6 * owes ^ reads) - 3 * (2 + n)},
            {owes, 2 * owes, -reads ^ n, 2 * owes - (2 * owes ^ (-reads ^ n))},
        };
        for (int kind = 0; kind < 7; kind++) {
            x.become(2, 10 * kind + m);
            for (int act = 0; act < 4; act++) {
                due("KIND " + kind + ", act " + act, x.voice(2, act, t), want[kind][act]);
            }
        }
        x.become(2, 3);
        due("goes round", x.voice(2, 1, MAX), 2);
        due("an answer like an ERROR", x.voice(0, 0, BEYOND), BEYOND);
        due("is none", x.told(1), 0);
        due("act above", x.voice(0, 4, 0), BEYOND);
        due("act below", x.voice(0, -1, 0), BEYOND);
        due("DEBTOR", x.voice(3, 0, 0), BEYOND);
        due("THE TRACE stays", x.trace(0) * 10 + x.count(8), 101);
    }

    private static void trace() {
        ChapterLoan x = town(0, 0);
        due("none yet", x.trace(0), NONE);
        int[][] want = {
            {0, 13, 11, 10, 12}, {1, 13, 20, 11, 10, 12, 12}, {2, 13, 11, 30, 10, 12}, {3, 13, 11, 10, 40, 12},
            {4, 13, 50, 20, 11, 10, 12, 12}, {5, 60, 13, 11, 30, 10, 12, 30, 10},
            {6, 71, 11, 10, 13, 11, 10, 70, 40, 12},
        };
        for (int[] row : want) {
            x.become(0, 10 * row[0]);
            x.voice(0, 3, 1);
            for (int i = 1; i < row.length; i++) {
                due("KIND " + row[0] + " at " + (i - 1), x.trace(i - 1), row[i]);
            }
            due("no more", x.trace(row.length - 1), NONE);
            due("how many", x.count(8), row.length - 1);
        }
        x.voice(0, 0, 1);
        due("the latest alone", x.trace(1), NONE);
        due("below", x.trace(-1), NONE);
        due("far", x.trace(MAX), NONE);
    }

    private static void sheet() {
        ChapterLoan x = town(1, 0);
        for (int bits : new int[] {8, 16, 32}) {
            due("bits " + bits, x.sheet(0, bits, 40), 1);
        }
        due("none", x.sheet(3, 8, 0), 1);
        due("41", x.sheet(0, 8, 41), BEYOND);
        due("-1", x.sheet(0, 8, -1), STATE);
        due("far below", x.sheet(0, 32, MIN), STATE);
        due("bits 7", x.sheet(0, 7, 1), BEYOND);
        due("bits 64", x.sheet(0, 64, 1), BEYOND);
        due("bits below", x.sheet(0, -8, 1), BEYOND);
        due("SHEET above", x.sheet(4, 8, 1), BEYOND);
        due("SHEET below", x.sheet(-1, 8, 1), BEYOND);
        due("BEYOND ahead of STATE", x.sheet(4, 8, -1), BEYOND);
        due("BEYOND of bits, too", x.sheet(0, 9, -1), BEYOND);
        due("40 stand there yet", x.put(0, 39, 1), 1);
        due("missing: n doesn't matter", x.sheet(0, 0, -5), 1);
        due("it is", x.put(0, 0, 1), NONE);
        due("missing, with many", x.sheet(0, 0, 41), 1);
        x.sheet(0, 8, 2);
        x.put(0, 0, 5);
        x.sheet(0, 8, 2);
        x.tells(0, 0);
        due("all 0", x.judge(0, 0), 1);
        due("of SHEET 4 with 0 bits", x.sheet(4, 0, 1), BEYOND);
    }

    private static void put() {
        ChapterLoan x = town(2, 0);
        x.tells(0, 1);
        x.sheet(0, 8, 1);
        due("put", x.put(0, 0, 1), 1);
        due("it is there", x.judge(0, 0), -1);
        for (int bits = 8; bits <= 32; bits *= 2) {
            x.sheet(0, bits, 1);
            x.put(0, 0, 257);
            due("8 lowest bits of " + bits, x.judge(0, 0), bits == 8 ? -1 : 0);
            x.put(0, 0, 65537);
            due("16 lowest bits of " + bits, x.judge(0, 0), bits <= 16 ? -1 : 0);
            x.put(0, 0, MIN + 1);
            due("the highest bit of " + bits, x.judge(0, 0), bits <= 16 ? -1 : 0);
        }
        due("behind the last", x.put(0, 1, 0), BEYOND);
        due("below", x.put(0, -1, 0), BEYOND);
        due("missing ahead of its number", x.put(1, 99, 0), NONE);
        due("SHEET above", x.put(4, 0, 0), BEYOND);
        due("SHEET below", x.put(-1, 0, 0), BEYOND);
    }

    private static void move() {
        ChapterLoan x = town(5, 0);
        for (int f : new int[] {4, 0, 1, 2, 3}) {
            x.tells(0, f);
        }
        sheet(x, 0, 4, 0, 1, 2, 3);
        sheet(x, 1, 9, 9, 9, 9, 9);
        due("all of them", x.move(0, 0, 1, 0, 5), 5);
        due("they are there", x.judge(1, 0), -1);
        sheet(x, 2, 0, 1, 2, 3, 9);
        due("onward in the same one", x.move(2, 0, 2, 1, 4), 4);
        x.put(2, 0, 4);
        due("as they all were", x.judge(2, 0), -1);
        sheet(x, 2, 9, 4, 0, 1, 2);
        due("back in the same one", x.move(2, 1, 2, 0, 4), 4);
        x.put(2, 4, 3);
        due("as they all were", x.judge(2, 0), -1);
        due("none", x.move(0, 5, 1, 5, 0), 0);
        due("behind the end", x.move(0, 6, 1, 0, 0), BEYOND);
        due("too many from", x.move(0, 1, 1, 0, 5), BEYOND);
        due("too many to", x.move(0, 0, 1, 1, 5), BEYOND);
        due("n below", x.move(0, 1, 1, 1, -1), BEYOND);
        due("i below", x.move(0, -1, 1, 1, 1), BEYOND);
        due("j below", x.move(0, 1, 1, -1, 1), BEYOND);
        due("n far", x.move(0, 1, 1, 1, MAX), BEYOND);
        due("i far", x.move(0, MAX, 1, 1, 1), BEYOND);
        due("j far", x.move(0, 1, 1, MAX, MAX), BEYOND);
        due("nothing came", x.judge(1, 0), -1);
        x.sheet(2, 16, 5);
        due("unlike bits", x.move(0, 0, 2, 0, 1), KIND);
        due("KIND ahead of BEYOND", x.move(0, 9, 2, 0, 1), KIND);
        due("missing to", x.move(0, 0, 3, 0, 1), NONE);
        due("missing from", x.move(3, 0, 0, 0, 1), NONE);
        due("no such one", x.move(4, 0, 3, 0, 1), BEYOND);
        due("no such other", x.move(3, 0, -1, 0, 1), BEYOND);
    }

    private static void reads() {
        ChapterLoan x = town(4, 0, 0);
        sheet(x, 0, 2, 0, 2, 1);
        due("up to the one told twice", x.reads(0), 2);
        due("they are told", x.ofDebtor(0, 4), 5);
        due("and paid", x.ofDebtor(0, 2), 80);
        due("by DEBTOR 0 alone", x.ofDebtor(1, 3), 0);
        due("no ERROR", x.told(3), 0);
        due("none at once", x.reads(0), 0);
        sheet(x, 0, 1, 9, 3);
        due("no such FACT", x.reads(0), 1);
        due("no ERROR", x.told(1), 0);
        sheet(x, 0);
        due("an empty one", x.reads(0), 0);
        due("missing", x.reads(1), NONE);
        due("SHEET above", x.reads(4), BEYOND);
        due("SHEET below", x.reads(-1), BEYOND);
        ChapterLoan y = town(2);
        sheet(y, 0, 0, 1);
        due("no DEBTOR 0", y.reads(0), 0);
        ChapterLoan z = broken();
        sheet(z, 0, 0);
        due("BROKEN", z.reads(0), 0);
    }

    private static void judge() {
        ChapterLoan x = town(4, 0, 0);
        x.tells(0, 2);
        x.tells(0, 0);
        sheet(x, 0, 2, 0);
        due("all are", x.judge(0, 0), -1);
        sheet(x, 0, 2, 0, 1);
        due("one too many", x.judge(0, 0), 2);
        sheet(x, 0, 2);
        due("one lacks", x.judge(0, 0), 1);
        sheet(x, 0, 2, 3);
        due("another one", x.judge(0, 0), 1);
        sheet(x, 0, 0, 2);
        due("in order", x.judge(0, 0), 0);
        sheet(x, 0);
        due("none", x.judge(0, 0), 0);
        due("none of none", x.judge(0, 1), -1);
        due("missing", x.judge(1, 0), NONE);
        due("SHEET above", x.judge(4, 0), BEYOND);
        due("DEBTOR, of a missing SHEET", x.judge(1, 2), BEYOND);
        due("DEBTOR below", x.judge(0, -1), BEYOND);
    }

    private static void image() {
        ChapterLoan x = town(1, 0);
        due("first", x.image(), 1);
        x.weeks(1);
        due("second", x.image(), 2);
        x.weeks(1);
        due("the second one is kept", x.restore(), 1);
        due("how often is not part of it", x.image(), 3);
    }

    private static void restore() {
        ChapterLoan x = story();
        due("there is none", x.restore(), NONE);
        x.clash(0, 1, 1);
        x.explain(0, 3, 1);
        x.meeting(2, 0, 3);
        text(x, 0, "5");
        text(x, 1, "d+7");
        feed(x, "9+");
        x.tell(0);
        x.tell(7);
        x.seed(99);
        x.voice(0, 3, 1);
        x.sheet(0, 8, 3);
        x.image();
        changeAll(x);
        due("WEEK", x.restore(), 5);
        int[] want = {3, 2, 5, 1, 0, 0, 2, 2, 1, 99};
        for (int what = 0; what <= 9; what++) {
            due("count(" + what + ")", x.count(what), want[what]);
        }
        int[] fact = {0, 2, 3, 1, 1, 2};
        for (int what = 0; what <= 5; what++) {
            due("ofFact(0, " + what + ")", x.ofFact(0, what), fact[what]);
        }
        due("KIND", x.ofDebtor(0, 0) * 10 + x.ofDebtor(1, 0), 3);
        due("BOOK at 0", x.book(1, 0, 0) * 100 + x.book(1, 0, 1), 3);
        due("BOOK at 1", x.book(1, 1, 0) * 100 + x.book(1, 1, 1), 205);
        due("BOOK at 2", x.book(1, 2, 0), NONE);
        due("PAY", x.law(0, 0, 0, 0), 5);
        due("TRUST", x.law(1, 1, 0, 0), 8);
        due("MEETING", x.since(3, 0), 2);
        due("THE TAPE", text(x, 0, "4"), 1);
        due("its bytes", x.law(0, 0, 0, 0), 13);
        due("the numbers that wait", x.check(), 2);
        due("SHEETS aren't part of it", x.put(0, 0, 1), NONE);
        due("nor THE TRACE", x.trace(0), 10);
        due("nor what is told", x.told(4) * 10 + x.told(2), 3);
        x.weeks(3);
        due("the IMAGE stays", x.restore(), 5);
    }

    private static void changeAll(ChapterLoan x) {
        x.clash(0, 1, 0);
        x.explain(0, 0, 0);
        x.fact(1, 1);
        x.debtor(11, 50);
        x.become(0, 66);
        x.tells(0, 2);
        x.meeting(0, 1, 4);
        x.lend(1, 999);
        x.weeks(20);
        due("BROKEN by then", x.pardon(1), 4);
        x.weeks(1);
        x.tells(1, 1);
        x.tells(1, 2);
        x.tells(1, 0);
        x.text(0);
        text(x, 0, "6");
        text(x, 1, "6");
        x.check();
        x.tell(1);
        x.tell(2);
        x.meeting(0, 2, 1);
        x.seed(5);
        x.voice(0, 0, 1);
        x.sheet(0, 0, 0);
    }

    private static void tell() {
        ChapterLoan x = new ChapterLoan();
        for (int i = 1; i <= 20; i++) {
            due("tell", x.tell(i == 1 ? MIN : i), i);
        }
        due("a 21st", x.tell(0), FULL);
        due("20 wait", x.count(7), 20);
    }

    private static void check() {
        ChapterLoan x = town(8, 0, 40);
        due("none wait", x.check(), 0);
        int[] sums = {185, 170, 155, 140, 125, 110, 95, 80, 80, 80};
        for (int sum : sums) {
            x.tell(sum);
        }
        due("all are so", x.check(), 0);
        due("none wait then", x.count(7), 0);
        x.tell(185);
        x.tell(171);
        x.tell(5);
        due("the second one isn't", x.check(), 2);
        due("none wait then, too", x.count(7), 0);
        x.tell(200);
        due("not now, but behind a WEEK", x.check(), 1);
        due("nothing goes by", x.count(2) + x.ofDebtor(0, 3), 0);
        for (int i = 0; i < 20; i++) {
            x.tell(i < 8 ? sums[i] : i < 19 ? 80 : 81);
        }
        due("the 20th isn't", x.check(), 20);
    }

    private static void count() {
        ChapterLoan x = town(3, 0, 30, 40);
        x.weeks(2);
        x.meeting(0, 0, 1);
        feed(x, "abc");
        x.tell(1);
        x.tell(1);
        x.voice(0, 3, 0);
        int[] want = {3, 3, 2, 1, 80 + 70 + 90, 1, 3, 2, 4, 1};
        for (int what = 0; what <= 9; what++) {
            due("count(" + what + ")", x.count(what), want[what]);
        }
        due("above", x.count(10), BEYOND);
        due("below", x.count(-1), BEYOND);
        x.seed(NONE);
        due("any number", x.count(9), NONE);
        due("is no ERROR", x.told(2), 0);
    }

    private static void told() {
        ChapterLoan x = broken();
        x.count(10);
        x.trace(0);
        x.trace(0);
        for (int i = 0; i < 3; i++) {
            x.lend(0, 1);
        }
        for (int i = 0; i < 24; i++) {
            x.tell(0);
        }
        for (int i = 0; i < 5; i++) {
            x.as(0, 3);
        }
        for (int k = 1; k <= 5; k++) {
            due("told(" + k + ")", x.told(k), k);
        }
        due("above", x.told(6), BEYOND);
        due("below", x.told(0), BEYOND);
        due("far", x.told(MIN), BEYOND);
        due("counted, too", x.told(1), 4);
        x.image();
        x.count(10);
        x.restore();
        due("not as the IMAGE has it", x.told(1), 5);
    }
}
