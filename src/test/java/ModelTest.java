import java.lang.reflect.InvocationTargetException;
import java.lang.reflect.Method;
import java.util.ArrayList;
import java.util.Arrays;
import java.util.List;
import java.util.Random;

/** Random runs of calls, answered by ChapterLoan and by PlainLoan, which must agree on every one. */
public final class ModelTest {
    private static final int RUNS = 3000;
    private static final int MOST_CALLS = 512;
    private static final int SHOWN = 10;

    private static int wrong = 0;

    private final Random random;
    private final ChapterLoan loan = new ChapterLoan();
    private final PlainLoan plain = new PlainLoan();
    private final List<String> calls = new ArrayList<>();
    private int most = 8;

    private ModelTest(long seed) {
        random = new Random(seed);
    }

    public static void main(String[] args) throws ReflectiveOperationException {
        int runs = args.length > 1 ? Integer.parseInt(args[1]) : RUNS;
        long start = args.length > 2 ? Long.parseLong(args[2]) : 0;
        for (int i = 0; i < runs && wrong < SHOWN; i++) {
            new ModelTest(start + i).run(start + i);
        }
        System.out.println(wrong == 0 ? "all answers are those of the plain model" : wrong + " runs go wrong");
        if (wrong != 0) {
            System.exit(1);
        }
    }

    private static Method methodOf(Class<?> type, String name) {
        for (Method m : type.getDeclaredMethods()) {
            if (m.getName().equals(name) && java.lang.reflect.Modifier.isPublic(m.getModifiers())) {
                return m;
            }
        }
        throw new IllegalArgumentException(name);
    }

    private boolean failed = false;

    /** One call on both; from the first that differs on nothing more is called. */
    private int call(String name, Object... args) throws ReflectiveOperationException {
        if (failed || calls.size() >= MOST_CALLS) {
            return 0;
        }
        calls.add(name + Arrays.toString(args));
        Object want = methodOf(PlainLoan.class, name).invoke(plain, args);
        Object got;
        try {
            got = methodOf(ChapterLoan.class, name).invoke(loan, args);
        } catch (InvocationTargetException e) {
            got = e.getCause();
        }
        if (!want.equals(got)) {
            failed = true;
            System.out.println(String.join("\n", calls) + "\n  answered " + got + ", the model " + want);
        }
        return (Integer) want;
    }

    private void run(long seed) throws ReflectiveOperationException {
        begin();
        int n = 60 + random.nextInt(400);
        while (!failed && calls.size() < n) {
            step();
        }
        for (int what = 0; what <= 9; what++) {
            call("count", what);
        }
        for (int k = 1; k <= 5; k++) {
            call("told", k);
        }
        if (failed) {
            wrong++;
            System.out.println("run " + seed);
        }
    }

    private void begin() throws ReflectiveOperationException {
        most = random.nextInt(4) == 0 ? 8 : 3 + random.nextInt(5);
        int dense = random.nextInt(4);
        for (int f = 0; f < most; f++) {
            int needs = few(dense) & ~(1 << f) & (random.nextInt(5) == 0 ? 255 : (1 << f) - 1);
            call("fact", needs, random.nextInt(32));
        }
        int clashes = random.nextInt(4);
        for (int i = 0; i < clashes; i++) {
            call("clash", fact(), fact(), 1);
        }
        int explains = random.nextInt(5);
        for (int i = 0; i < explains; i++) {
            call("explain", fact(), 1 + random.nextInt(9), fact());
        }
        int debtors = 1 + random.nextInt(4);
        for (int d = 0; d < debtors; d++) {
            call("debtor", random.nextInt(70), random.nextInt(4) == 0 ? random.nextInt(10000) : random.nextInt(120));
        }
        int meetings = random.nextInt(7);
        for (int i = 0; i < meetings; i++) {
            call("meeting", random.nextInt(12), random.nextInt(5), random.nextInt(5));
        }
    }

    private int few(int dense) {
        int set = 0;
        for (int i = 0; i < dense; i++) {
            set |= random.nextInt(3) == 0 ? 0 : 1 << random.nextInt(8);
        }
        return set;
    }

    /** Mostly one of low .. high; at times the next ones outside, or the ends of ints. */
    private int near(int low, int high) {
        switch (random.nextInt(40)) {
            case 0: return low - 1;
            case 1: return high + 1;
            case 2: return random.nextBoolean() ? Integer.MIN_VALUE : Integer.MAX_VALUE;
            case 3: return low;
            case 4: return high;
            default: return low + random.nextInt(high - low + 1);
        }
    }

    private int fact() {
        return near(0, most - 1);
    }

    private int debtor() {
        return near(0, random.nextInt(3));
    }

    private int sheet() {
        return near(0, random.nextInt(4));
    }

    private int week() {
        return random.nextInt(4) == 0 ? near(0, 999) : near(0, 15);
    }

    private void step() throws ReflectiveOperationException {
        switch (random.nextInt(12)) {
            case 0: facts(); break;
            case 1:
            case 2: chapters(); break;
            case 3: texts(); break;
            case 4:
            case 5: wouldBe(); break;
            case 6: knowing(); break;
            case 7: sheets(); break;
            case 8: numbersOfBook(); break;
            case 9: explaining(); break;
            case 10: waiting(); break;
            default: rest(); break;
        }
    }

    private void facts() throws ReflectiveOperationException {
        switch (random.nextInt(10)) {
            case 0: call("fact", near(0, 255), near(0, 31)); break;
            case 1: call("clash", fact(), fact(), near(0, 1)); break;
            case 2: call("explain", fact(), near(0, 9), fact()); break;
            case 3: call("ofFact", fact(), near(0, 5)); break;
            case 4: call("debtor", near(0, 69), near(0, 9999)); break;
            case 5:
            case 6: call("ofDebtor", debtor(), near(0, 9)); break;
            case 7: call("book", debtor(), near(0, most), near(0, 1)); break;
            case 8: call("become", debtor(), near(0, 69)); break;
            default: call("as", debtor(), near(0, 6)); break;
        }
    }

    private void chapters() throws ReflectiveOperationException {
        int n = random.nextInt(8) == 0 ? near(1, 60) : near(1, 3);
        switch (random.nextInt(8)) {
            case 0: call("lend", debtor(), near(1, random.nextBoolean() ? 60 : 999)); break;
            case 1:
            case 2: call("tells", debtor(), fact()); break;
            case 3:
                for (int d = 0; d < 4; d++) {
                    call("pardon", d);
                }
                break;
            case 4: call("weeks", n); break;
            case 5: call("loose", n); break;
            default: call("then", near(0, 60), debtor(), near(2, 7)); break;
        }
        for (int d = 0; random.nextInt(6) == 0 && d < 4; d++) {
            for (int what = 0; what <= 9; what++) {
                call("ofDebtor", d, what);
            }
        }
    }

    private void texts() throws ReflectiveOperationException {
        String text = Texts.any(random, random.nextBoolean() ? "fwd" : "don");
        if (random.nextInt(4) == 0) {
            call("feed", random.nextLong(), near(1, 8));
        }
        for (int i = 0; i < text.length(); i += 8) {
            int n = Math.min(8, text.length() - i);
            long word = random.nextInt(256);
            for (int k = 7; k >= 0; k--) {
                word = word << 8 | (k < n ? text.charAt(i + k) : random.nextInt(256));
            }
            call("feed", word, n);
        }
        call("text", near(0, 1));
        call("law", near(0, 1), number(), number(), number());
        call("law", near(0, 1), number(), number(), number());
    }

    private int number() {
        switch (random.nextInt(4)) {
            case 0: return random.nextInt();
            case 1: return random.nextInt(2000) - 1000;
            default: return random.nextInt(12) - 3;
        }
    }

    private void wouldBe() throws ReflectiveOperationException {
        int d = debtor();
        switch (random.nextInt(5)) {
            case 0:
                if (most < 8 || random.nextInt(4) == 0) {
                    String name = random.nextBoolean() ? "served" : "closed";
                    for (int i = -1; i < call(name, d, -1); i++) {
                        call(name, d, i);
                    }
                    call(name, debtor(), near(-1, 7));
                }
                break;
            case 1: call("clashOf", near(0, 255)); break;
            case 2: call("joined", debtor(), debtor()); break;
            default: call("rated", debtor(), near(1, 4), near(0, 1)); break;
        }
    }

    private void knowing() throws ReflectiveOperationException {
        switch (random.nextInt(4)) {
            case 0: call("meeting", week(), near(0, 4), near(0, 4)); break;
            case 1: call("knows", near(0, 4), week()); break;
            case 2: call("common", near(1, 31), week()); break;
            default: call("since", near(0, 4), fact()); break;
        }
    }

    private void sheets() throws ReflectiveOperationException {
        int[] bits = {0, 8, 8, 8, 16, 32, 7, 64, -8};
        switch (random.nextInt(6)) {
            case 0: call("sheet", sheet(), bits[random.nextInt(bits.length)], near(0, 40)); break;
            case 1: call("put", sheet(), near(0, 40), random.nextInt(300) - 20); break;
            case 2:
                call("move", sheet(), near(0, 4), sheet(), near(0, 4), near(0, random.nextBoolean() ? 3 : 40));
                break;
            case 3: call("reads", sheet()); break;
            case 4: call("judge", sheet(), debtor()); break;
            default: call("explained", debtor(), sheet()); break;
        }
    }

    private void fill(int sheet, List<Integer> numbers) throws ReflectiveOperationException {
        call("sheet", sheet, 8 << random.nextInt(3), numbers.size());
        for (int i = 0; i < numbers.size(); i++) {
            call("put", sheet, i, numbers.get(i) + (random.nextInt(30) == 0 ? 256 : 0));
        }
    }

    private List<Integer> bookOf(int debtor, int from) throws ReflectiveOperationException {
        List<Integer> numbers = new ArrayList<>();
        int size = call("ofDebtor", debtor, 3);
        for (int i = from; i < size; i++) {
            numbers.add(call("book", debtor, i, 0));
        }
        return numbers;
    }

    private void numbersOfBook() throws ReflectiveOperationException {
        int d = random.nextInt(2);
        int sheet = random.nextInt(4);
        List<Integer> numbers = bookOf(d, 0);
        int change = random.nextInt(4);
        if (change == 0) {
            numbers.add(random.nextInt(8));
        } else if (change == 1 && !numbers.isEmpty()) {
            numbers.remove(numbers.size() - 1);
        } else if (change == 2 && !numbers.isEmpty()) {
            numbers.set(random.nextInt(numbers.size()), random.nextInt(8));
        }
        fill(sheet, numbers);
        call("judge", sheet, d);
        call("reads", sheet);
    }

    /** Has a DEBTOR tell as another KIND, goes back, and asks by which KIND it would tell so. */
    private void explaining() throws ReflectiveOperationException {
        int d = random.nextInt(2);
        int sheet = random.nextInt(4);
        int m = call("ofDebtor", d, 1);
        int from = call("ofDebtor", d, 3);
        call("image");
        call("become", d, 10 * random.nextInt(7) + Math.max(0, m));
        call("weeks", 1 + random.nextInt(6));
        List<Integer> numbers = bookOf(d, Math.max(0, from));
        call("restore");
        fill(sheet, numbers);
        call("explained", d, sheet);
    }

    private void waiting() throws ReflectiveOperationException {
        int n = random.nextInt(22);
        int off = random.nextInt(30);
        if (random.nextInt(3) != 0) {
            call("check");
        }
        for (int i = 1; i <= n; i++) {
            int sum = i == off ? 1 : 0;
            int debtors = call("count", 1);
            for (int d = 0; d < debtors; d++) {
                sum += call("then", i, d, 2);
            }
            call("tell", sum);
        }
        call("check");
        call("count", 7);
    }

    private void rest() throws ReflectiveOperationException {
        switch (random.nextInt(8)) {
            case 0: call("seed", random.nextInt()); break;
            case 1:
            case 2:
                call("voice", debtor(), near(0, 3), number());
                for (int i = -1; i < 12; i++) {
                    call("trace", i);
                }
                break;
            case 3: call("image"); break;
            case 4: call("restore"); break;
            case 5: call("count", near(0, 9)); break;
            case 6: call("told", near(1, 5)); break;
            default: call("tell", number()); break;
        }
    }
}
