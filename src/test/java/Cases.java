import java.lang.reflect.InvocationTargetException;
import java.lang.reflect.Method;
import java.util.ArrayList;
import java.util.Arrays;
import java.util.Comparator;
import java.util.List;
import java.util.function.Supplier;
import java.util.function.ToIntBiFunction;
import java.util.function.ToIntFunction;

/** Runs the boundary tests, each a static method of its own named after its promise and its case. */
final class Cases {
    static final int LOW = -1000000000;
    static final int BEYOND = LOW - 1;
    static final int NONE = LOW - 2;
    static final int STATE = LOW - 3;
    static final int FULL = LOW - 4;
    static final int KIND = LOW - 5;
    static final int MIN = Integer.MIN_VALUE;
    static final int MAX = Integer.MAX_VALUE;
    /** No call answers this one in the towns of these tests. */
    private static final int NOTHING = -777777777;

    private static String now = "";
    private static int wrong = 0;

    private Cases() {
    }

    /** Runs every "promise.." or "point.." of a class; ends the program with 1 if one fails. */
    static void run(Class<?> tests) throws IllegalAccessException {
        Method[] all = tests.getDeclaredMethods();
        Arrays.sort(all, Comparator.comparing(Method::getName));
        int count = 0;
        for (Method m : all) {
            if (m.getName().matches("(promise|point)\\d+_\\w+")) {
                now = m.getName();
                m.setAccessible(true);
                count++;
                try {
                    m.invoke(null);
                } catch (InvocationTargetException e) {
                    tell("threw " + e.getCause());
                }
            }
        }
        if (count == 0) {
            tell("no test was found");
        }
        System.out.println(wrong == 0 ? count + " boundary cases hold" : wrong + " answers are not as due");
        if (wrong != 0) {
            System.exit(1);
        }
    }

    private static void tell(String what) {
        wrong++;
        System.out.println(now + ": " + what);
    }

    // ---- what is due

    static void due(String call, int got, int want) {
        if (got != want) {
            tell(call + " answered " + got + ", due is " + want);
        }
    }

    /** A call that is refused with an ERROR changes nothing but how often that one was told. */
    static void refused(int error, Supplier<ChapterLoan> town, ToIntFunction<ChapterLoan> call) {
        refused("the call", error, town, call);
    }

    private static void refused(String what, int error, Supplier<ChapterLoan> town, ToIntFunction<ChapterLoan> call) {
        ChapterLoan x = town.get();
        due(what, call.applyAsInt(x), error);
        compare(what + " (refused)", x, town.get(), LOW - error);
    }

    /** A number one step outside of low .. high, or far outside, is refused; the rest of the call is right. */
    static void outside(int low, int high, int error, Supplier<ChapterLoan> town,
            ToIntBiFunction<ChapterLoan, Integer> call) {
        for (int v : new int[] {low - 1, high + 1, MIN, MAX}) {
            refused("with " + v, error, town, x -> call.applyAsInt(x, v));
        }
    }

    /** A call that answers no ERROR, and after which all is as it was. */
    static void onlyThought(int want, Supplier<ChapterLoan> town, ToIntFunction<ChapterLoan> call) {
        ChapterLoan x = town.get();
        due("the call", call.applyAsInt(x), want);
        compare("the call (only thought)", x, town.get(), 0);
    }

    /** Two objects that are alike in all that can be seen; they are used up by it. */
    static void alike(ChapterLoan x, ChapterLoan other) {
        compare("what was done", x, other, 0);
    }

    private static void compare(String what, ChapterLoan x, ChapterLoan untouched, int error) {
        for (int k = 1; k <= 5; k++) {
            due(what + ": told(" + k + ")", x.told(k), untouched.told(k) + (k == error ? 1 : 0));
        }
        List<Integer> got = sight(x);
        List<Integer> want = sight(untouched);
        for (int i = 0; i < Math.max(got.size(), want.size()); i++) {
            int g = i < got.size() ? got.get(i) : NOTHING;
            int w = i < want.size() ? want.get(i) : NOTHING;
            if (g != w) {
                tell(what + " changed what is seen at " + i + ": " + g + ", was " + w);
                return;
            }
        }
    }

    // ---- all that can be seen of an object, by some 390 calls at most

    /** The object is used up by it: THE TAPE is read, the numbers are checked, the IMAGE is restored. */
    private static List<Integer> sight(ChapterLoan x) {
        List<Integer> seen = new ArrayList<>();
        counts(x, seen);
        factsAndDebtors(x, seen);
        for (int use = 0; use < 2; use++) {
            seen.add(x.law(use, 1, 2, 3));
            seen.add(x.law(use, 100, 5, 7));
        }
        for (int i = 0; i <= x.count(8) && i < 12; i++) {
            seen.add(x.trace(i));
        }
        sheets(x, seen);
        seen.add(x.text(1));
        seen.add(x.law(1, 1, 2, 3));
        seen.add(x.check());
        seen.add(x.restore());
        counts(x, seen);
        for (int d = 0; d < x.count(1); d++) {
            for (int what = 0; what < 10; what += 1 + what % 2) {
                seen.add(x.ofDebtor(d, what));
            }
        }
        seen.add(x.image());
        return seen;
    }

    private static void counts(ChapterLoan x, List<Integer> seen) {
        for (int what = 0; what < 10; what++) {
            seen.add(x.count(what));
        }
    }

    private static void factsAndDebtors(ChapterLoan x, List<Integer> seen) {
        int facts = x.count(0);
        for (int f = 0; f < facts; f++) {
            for (int what = 0; what < 6; what++) {
                seen.add(x.ofFact(f, what));
            }
            for (int figure = 0; figure < 5; figure++) {
                seen.add(x.since(figure, f));
            }
        }
        for (int d = 0; d < x.count(1); d++) {
            for (int what = 0; what < 10; what++) {
                seen.add(x.ofDebtor(d, what));
            }
            for (int i = 0; i < x.ofDebtor(d, 3); i++) {
                seen.add(x.book(d, i, 0));
                seen.add(x.book(d, i, 1));
            }
        }
    }

    private static void sheets(ChapterLoan x, List<Integer> seen) {
        for (int s = 0; s < 4; s++) {
            seen.add(x.move(s, 0, (s + 1) % 4, 0, 0));
            for (int n = 1; n <= 6; n++) {
                seen.add(x.move(s, 0, s, 0, n));
            }
            seen.add(x.move(s, 0, s, 0, 40));
            for (int d = 0; d < x.count(1); d++) {
                seen.add(x.judge(s, d));
            }
        }
    }

    // ---- towns

    /** n FACTS that need nothing, and DEBTORS of the KINDS, with a DEBT of 100 each. */
    static ChapterLoan town(int n, int... kms) {
        ChapterLoan x = new ChapterLoan();
        for (int i = 0; i < n; i++) {
            x.fact(0, 0);
        }
        for (int km : kms) {
            x.debtor(km, 100);
        }
        return x;
    }

    /**
     * Something of everything, in WEEK 3. FACTS 0 .. 4: 1 needs 0, 4 needs 3, 1 and 3 CLASH, 4 explains 0.
     * DEBTOR 0 owes 470 behind FACTS 0, 1, 2; 1, a GHOST, is BROKEN behind all five; 2, a PLAGIARIST, owes 5
     * behind 0, 1, 2. SHEETS 0, 1, 2 have 8, 16, 32 bits, and 3, 5, 2 numbers; 3 is missing.
     */
    static ChapterLoan busy() {
        ChapterLoan x = new ChapterLoan();
        int[][] facts = {{0, 3}, {1, 4}, {0, 8}, {0, 16}, {8, 1}};
        for (int[] fact : facts) {
            x.fact(fact[0], fact[1]);
        }
        x.clash(1, 3, 1);
        x.explain(0, 9, 4);
        x.debtor(4, 500);
        x.debtor(35, 100);
        x.debtor(10, 20);
        text(x, 0, "9+1");
        text(x, 1, "n-o*2");
        x.meeting(1, 0, 1);
        x.meeting(2, 1, 4);
        x.weeks(2);
        x.image();
        x.weeks(1);
        feed(x, "n*7-d");
        x.tell(520);
        x.tell(520);
        x.seed(77);
        x.voice(0, 3, 5);
        sheet(x, 0, 8, 0, 1, 2);
        sheet(x, 1, 16, 0, 1, 2, 3, 4);
        sheet(x, 2, 32, 0, 1);
        return x;
    }

    /** DEBTOR 0 is BROKEN: it told FACT 0 in WEEK 0 and found no other one in WEEK 1; it owes 90. */
    static ChapterLoan broken() {
        ChapterLoan x = town(1, 0);
        x.weeks(2);
        return x;
    }

    /** As a town with one DEBTOR without a DEBT, in a later WEEK. */
    static ChapterLoan inWeek(int week, int facts) {
        ChapterLoan x = town(facts);
        x.debtor(0, 0);
        for (int left = week; left > 0; left -= 60) {
            x.weeks(Math.min(60, left));
        }
        return x;
    }

    // ---- what towns are made of

    static void feed(ChapterLoan x, String text) {
        for (int i = 0; i < text.length(); i += 8) {
            int n = Math.min(8, text.length() - i);
            long word = 0;
            for (int k = n - 1; k >= 0; k--) {
                word = word << 8 | text.charAt(i + k);
            }
            x.feed(word, n);
        }
    }

    static int text(ChapterLoan x, int use, String text) {
        feed(x, text);
        return x.text(use);
    }

    static void sheet(ChapterLoan x, int sheet, int bits, int... numbers) {
        x.sheet(sheet, bits, numbers.length);
        for (int i = 0; i < numbers.length; i++) {
            x.put(sheet, i, numbers[i]);
        }
    }
}
