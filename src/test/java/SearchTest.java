import java.util.Random;

/** SERVED and CLOSED among FACTS that clash, need and explain each other a lot, compared with PlainLoan. */
public final class SearchTest {
    private static final int RUNS = 3000;

    private static int wrong = 0;

    private final ChapterLoan loan = new ChapterLoan();
    private final PlainLoan plain = new PlainLoan();
    private final StringBuilder calls = new StringBuilder();

    public static void main(String[] args) {
        int runs = args.length > 1 ? Integer.parseInt(args[1]) : RUNS;
        int start = args.length > 2 ? Integer.parseInt(args[2]) : 0;
        for (int i = 0; i < runs && wrong < 10; i++) {
            new SearchTest().run(new Random(start + i));
        }
        System.out.println(wrong == 0 ? "all rows are those of the plain model" : wrong + " runs go wrong");
        if (wrong != 0) {
            System.exit(1);
        }
    }

    private void due(String call, int got, int want) {
        calls.append(call).append(" = ").append(want).append('\n');
        if (got != want) {
            wrong++;
            System.out.println(calls + "  answered " + got);
        }
    }

    private void run(Random random) {
        int n = random.nextInt(30) == 0 ? 8 : 4 + random.nextInt(4);
        facts(random, n);
        int weeks = random.nextInt(3);
        int ahead = 1 + random.nextInt(60);
        due("weeks " + ahead, loan.weeks(ahead), plain.weeks(ahead));
        int debtors = 1 + random.nextInt(3);
        for (int d = 0; d < debtors; d++) {
            int km = random.nextInt(70);
            due("debtor " + km, loan.debtor(km, 900), plain.debtor(km, 900));
        }
        for (int w = 0; w < weeks; w++) {
            int fact = random.nextInt(n);
            int who = random.nextInt(debtors);
            due("tells " + who + " " + fact, loan.tells(who, fact), plain.tells(who, fact));
            if (random.nextBoolean()) {
                due("weeks", loan.weeks(1), plain.weeks(1));
            }
        }
        rows();
    }

    private void facts(Random random, int n) {
        int needy = random.nextInt(3);
        for (int f = 0; f < n; f++) {
            int needs = 0;
            for (int i = 0; i < needy; i++) {
                needs |= random.nextInt(3) == 0 ? 1 << random.nextInt(n) : 0;
            }
            needs &= ~(1 << f);
            due("fact " + needs, loan.fact(needs, 0), plain.fact(needs, 0));
        }
        int clashes = random.nextInt(3);
        for (int i = 0; i < clashes; i++) {
            int a = random.nextInt(n);
            int b = random.nextInt(n);
            due("clash " + a + " " + b, loan.clash(a, b, 1), plain.clash(a, b, 1));
        }
        int explained = random.nextInt(n + 1);
        int longest = 1 + random.nextInt(6);
        for (int i = 0; i < explained; i++) {
            int a = random.nextInt(n);
            int within = 1 + random.nextInt(longest);
            int by = random.nextInt(n);
            due("explain " + a + " " + within + " " + by, loan.explain(a, within, by), plain.explain(a, within, by));
        }
    }

    private void rows() {
        int served = plain.served(0, -1);
        due("served", loan.served(0, -1), served);
        int closed = plain.closed(0, -1);
        due("closed", loan.closed(0, -1), closed);
        for (int i = 0; i < served; i++) {
            due("served at " + i, loan.served(0, i), plain.served(0, i));
        }
        for (int i = 0; i < closed; i++) {
            due("closed at " + i, loan.closed(0, i), plain.closed(0, i));
        }
    }
}
