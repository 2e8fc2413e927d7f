import java.util.Arrays;

/** A banker lends coin against stories and takes the interest in chapters. See README.md. */
public final class ChapterLoan {
    private static final int LOW = -1000000000;
    private static final int BEYOND = 1;
    private static final int NONE = 2;
    private static final int STATE = 3;
    private static final int FULL = 4;
    private static final int UNLIKE = 5;
    private static final int ERRORS = 5;

    private static final int MOST_FACTS = 8;
    private static final int ALL_SETS = 256;
    private static final int MOST_WITHIN = 9;
    private static final int FIGURES = 5;
    private static final int ALL_FIGURES = 31;
    private static final int MOST_DEBTORS = 4;
    private static final int MOST_DEBT = 9999;
    private static final int MOST_LENT = 999;
    private static final int MOST_KM = 69;
    private static final int MOST_RATE = 4;
    private static final int LAST_WEEK = 999;
    private static final int MOST_WEEKS = 60;
    private static final int MOST_MEETINGS = 12;
    private static final int MOST_BYTES = 50;
    private static final int WORD_BYTES = 8;
    private static final int MOST_WAITING = 20;
    private static final int SHEETS = 4;
    private static final int MOST_NUMBERS = 40;
    private static final int MOST_TRACED = 40;
    private static final int NOBODY = -1;

    private static final int DEBTOR = 0;
    private static final int PLAGIARIST = 1;
    private static final int DREAMER = 2;
    private static final int GHOST = 3;
    private static final int TWIN = 4;
    private static final int SEER = 5;
    private static final int SAINT = 6;
    private static final int KINDS = 7;
    /** The KIND above each KIND. */
    private static final int[] ABOVE = {-1, DEBTOR, DEBTOR, DEBTOR, PLAGIARIST, DREAMER, GHOST};

    private static final int OWES = 0;
    private static final int WRITES = 1;
    private static final int READS = 2;
    private static final int TELLS = 3;
    private static final int ACTS = 4;
    /** The number of the BODY that a KIND has for an act, by rows of KINDS; 0 where it has none. */
    private static final int[] BODIES = {
        10, 11, 12, 13,
        0, 20, 0, 0,
        30, 0, 0, 0,
        0, 0, 40, 0,
        0, 50, 0, 0,
        0, 0, 0, 60,
        0, 0, 70, 71,
    };

    private static final int PAY = 0;
    private static final int TRUST = 1;
    private static final int NAMES = 3;
    private static final int MOST_HELD = 999;
    /** What a USE gives without a TEXT, as steps of a Law. */
    private static final int[] USUAL_PAY = {10};
    private static final int[] USUAL_TRUST = {10, -3, -'*', 5, -2, -'*', -'-', -1, -'-'};

    private final World world = new World();
    private final World kept = new World();
    private final Town thought = new Town(world.facts, world.pay);
    private final Search search = new Search(world.facts);
    private final Reader reader = new Reader();
    private final Voices voices = new Voices();
    private final Sheet[] sheets = new Sheet[SHEETS];
    private final int[] figures = new int[FIGURES];
    private final int[] refused = new int[ERRORS + 1];
    private int images;

    public ChapterLoan() {
        for (int i = 0; i < SHEETS; i++) {
            sheets[i] = new Sheet();
        }
    }

    // ---- facts, debtors

    public int fact(int needs, int witnesses) {
        Facts facts = world.facts;
        boolean needsItself = (needs >> facts.size & 1) == 1;
        if (!among(needs, 0, ALL_SETS - 1) || needsItself || !among(witnesses, 0, ALL_FIGURES)) {
            return refuse(BEYOND);
        }
        if (facts.size >= MOST_FACTS) {
            return refuse(FULL);
        }
        return facts.add(needs, witnesses);
    }

    public int clash(int one, int other, int v) {
        if (!isFact(one) || !isFact(other) || one == other || !among(v, 0, 1)) {
            return refuse(BEYOND);
        }
        int were = world.facts.clashes[one] >> other & 1;
        world.facts.setClash(one, other, v);
        return were;
    }

    public int explain(int fact, int within, int by) {
        if (!isFact(fact) || !among(within, 0, MOST_WITHIN)) {
            return refuse(BEYOND);
        }
        if (within > 0 && (!isFact(by) || by == fact)) {
            return refuse(BEYOND);
        }
        int was = world.facts.within[fact];
        world.facts.within[fact] = within;
        world.facts.by[fact] = within > 0 ? by : -1;
        return was;
    }

    public int ofFact(int fact, int what) {
        if (!isFact(fact)) {
            return refuse(BEYOND);
        }
        switch (what) {
            case 0: return world.facts.needs[fact];
            case 1: return world.facts.clashes[fact];
            case 2: return world.facts.within[fact];
            case 3: return world.facts.by[fact];
            case 4: return world.facts.witnesses[fact];
            case 5: return world.town.booksWith(fact);
            default: return refuse(BEYOND);
        }
    }

    public int debtor(int km, int debt) {
        if (!among(km, 0, MOST_KM) || !among(debt, 0, MOST_DEBT)) {
            return refuse(BEYOND);
        }
        if (world.town.size >= MOST_DEBTORS) {
            return refuse(FULL);
        }
        return world.town.add(km, debt);
    }

    public int ofDebtor(int debtor, int what) {
        if (!isDebtor(debtor) || !among(what, 0, 9)) {
            return refuse(BEYOND);
        }
        Debtor one = world.town.debtors[debtor];
        switch (what) {
            case 0: return one.kind;
            case 1: return one.m;
            case 6: return one.due();
            case 8: return world.town.mayTell(debtor);
            case 9: return world.trust.gives(one.debt, world.town.openOf(debtor), one.size);
            default: return stateOf(world.town, debtor, what);
        }
    }

    public int book(int debtor, int i, int what) {
        if (!isDebtor(debtor) || !among(what, 0, 1)) {
            return refuse(BEYOND);
        }
        Debtor one = world.town.debtors[debtor];
        if (!among(i, 0, one.size - 1)) {
            return refuse(NONE);
        }
        int fact = one.order[i];
        return what == 0 ? fact : one.toldIn[fact];
    }

    public int become(int debtor, int km) {
        if (!isDebtor(debtor) || !among(km, 0, MOST_KM)) {
            return refuse(BEYOND);
        }
        Debtor one = world.town.debtors[debtor];
        int was = one.kind;
        one.kind = km / 10;
        one.m = km % 10;
        return was;
    }

    public int as(int debtor, int kind) {
        if (!isDebtor(debtor) || !isKind(kind)) {
            return refuse(BEYOND);
        }
        Debtor one = world.town.debtors[debtor];
        return one.is(kind) ? one.m : refuse(UNLIKE);
    }

    // ---- chapters

    public int lend(int debtor, int n) {
        if (!isDebtor(debtor) || !among(n, 1, MOST_LENT)) {
            return refuse(BEYOND);
        }
        Debtor one = world.town.debtors[debtor];
        if (one.broken) {
            return refuse(STATE);
        }
        one.owe(n);
        return one.debt;
    }

    public int tells(int debtor, int fact) {
        if (!isDebtor(debtor) || !isFact(fact)) {
            return refuse(BEYOND);
        }
        if (!canTell(debtor, fact)) {
            return refuse(STATE);
        }
        world.town.write(debtor, fact);
        return world.town.debtors[debtor].debt;
    }

    public int pardon(int debtor) {
        if (!isDebtor(debtor)) {
            return refuse(BEYOND);
        }
        Debtor one = world.town.debtors[debtor];
        if (!one.broken) {
            return refuse(STATE);
        }
        int were = one.size;
        one.letOff();
        return were;
    }

    public int weeks(int n) {
        if (!among(n, 1, MOST_WEEKS)) {
            return refuse(BEYOND);
        }
        if (world.town.week + n > LAST_WEEK) {
            return refuse(STATE);
        }
        world.town.passWeeks(n);
        return world.town.broken();
    }

    public int loose(int n) {
        if (!among(n, 1, MOST_WEEKS)) {
            return refuse(BEYOND);
        }
        if (world.town.week + n > LAST_WEEK) {
            return refuse(STATE);
        }
        for (int i = 0; i < n; i++) {
            world.lendByDraws();
            world.town.passWeeks(1);
        }
        return world.town.broken();
    }

    public int then(int n, int debtor, int what) {
        if (!among(n, 0, MOST_WEEKS) || !isDebtor(debtor) || !among(what, 2, 7) || what == 6) {
            return refuse(BEYOND);
        }
        thought.copyFrom(world.town);
        thought.passWeeks(n);
        return stateOf(thought, debtor, what);
    }

    // ---- texts

    public int feed(long word, int n) {
        if (!among(n, 1, WORD_BYTES)) {
            return refuse(BEYOND);
        }
        Tape tape = world.tape;
        if (tape.size + n > MOST_BYTES) {
            return refuse(FULL);
        }
        for (int i = 0; i < n; i++) {
            tape.add((int) (word >>> 8 * i) & 255);
        }
        return tape.size;
    }

    public int text(int use) {
        if (!isUse(use)) {
            return refuse(BEYOND);
        }
        int fault = reader.readAll(world.tape, use);
        world.tape.size = 0;
        if (fault >= 0) {
            return -10 - fault;
        }
        lawOf(use).take(reader.steps, reader.size);
        return 1;
    }

    public int law(int use, int a, int b, int c) {
        return isUse(use) ? lawOf(use).gives(a, b, c) : refuse(BEYOND);
    }

    // ---- what would be

    public int served(int debtor, int what) {
        return searched(debtor, what, false);
    }

    public int closed(int debtor, int what) {
        return searched(debtor, what, true);
    }

    public int clashOf(int set) {
        if (!among(set, 0, (1 << world.facts.size) - 1)) {
            return refuse(BEYOND);
        }
        int two = world.facts.firstClash(set);
        return two < 0 ? refuse(NONE) : two;
    }

    public int joined(int one, int other) {
        if (!isDebtor(one) || !isDebtor(other) || one == other) {
            return refuse(BEYOND);
        }
        int here = world.town.debtors[one].told;
        int there = world.town.debtors[other].told;
        return world.facts.clashBetween(here, there) ? refuse(NONE) : here | there;
    }

    public int rated(int debtor, int r, int what) {
        if (!isDebtor(debtor) || !among(r, 1, MOST_RATE) || !among(what, 0, 1)) {
            return refuse(BEYOND);
        }
        int answer = what == 0 ? weeksUntilFree(debtor, r) : bestRate(debtor);
        return answer < 0 ? refuse(NONE) : answer;
    }

    public int explained(int debtor, int sheet) {
        if (!isDebtor(debtor) || !isSheet(sheet)) {
            return refuse(BEYOND);
        }
        if (sheets[sheet].isMissing()) {
            return refuse(NONE);
        }
        for (int kind = 0; kind < KINDS; kind++) {
            if (wouldTell(debtor, kind, sheets[sheet])) {
                return kind;
            }
        }
        return refuse(NONE);
    }

    // ---- who knows

    public int meeting(int week, int one, int other) {
        if (!among(week, 0, LAST_WEEK) || !isFigure(one) || !isFigure(other) || one == other) {
            return refuse(BEYOND);
        }
        if (world.meetings.size >= MOST_MEETINGS) {
            return refuse(FULL);
        }
        return world.meetings.add(week, one, other);
    }

    public int knows(int figure, int week) {
        if (!isFigure(figure) || !among(week, 0, LAST_WEEK)) {
            return refuse(BEYOND);
        }
        world.gatherKnown(week, figures);
        return figures[figure];
    }

    public int common(int set, int week) {
        if (!among(set, 1, ALL_FIGURES) || !among(week, 0, LAST_WEEK)) {
            return refuse(BEYOND);
        }
        world.gatherKnown(week, figures);
        int shared = ALL_SETS - 1;
        for (int i = 0; i < FIGURES; i++) {
            if ((set >> i & 1) == 1) {
                shared &= figures[i];
            }
        }
        return shared;
    }

    public int since(int figure, int fact) {
        if (!isFigure(figure) || !isFact(fact)) {
            return refuse(BEYOND);
        }
        world.gatherFirstWeeks(fact, figures);
        return figures[figure] > LAST_WEEK ? refuse(NONE) : figures[figure];
    }

    // ---- draws, voices, sheets, images, what is told

    public int seed(int v) {
        int was = world.z;
        world.z = v;
        return was;
    }

    public int voice(int debtor, int act, int x) {
        if (!isDebtor(debtor) || !among(act, 0, ACTS - 1)) {
            return refuse(BEYOND);
        }
        Debtor one = world.town.debtors[debtor];
        return voices.begin(one.kind, debtor, one.m, act, x);
    }

    public int trace(int i) {
        return among(i, 0, voices.size - 1) ? voices.traced[i] : refuse(NONE);
    }

    public int sheet(int sheet, int bits, int n) {
        if (!isSheet(sheet) || bits != 0 && bits != 8 && bits != 16 && bits != 32) {
            return refuse(BEYOND);
        }
        if (bits != 0 && n < 0) {
            return refuse(STATE);
        }
        if (bits != 0 && n > MOST_NUMBERS) {
            return refuse(BEYOND);
        }
        sheets[sheet].begin(bits, bits == 0 ? 0 : n);
        return 1;
    }

    public int put(int sheet, int i, int v) {
        if (!isSheet(sheet)) {
            return refuse(BEYOND);
        }
        Sheet one = sheets[sheet];
        if (one.isMissing()) {
            return refuse(NONE);
        }
        if (!among(i, 0, one.size - 1)) {
            return refuse(BEYOND);
        }
        one.numbers[i] = one.lowest(v);
        return 1;
    }

    public int move(int sheet, int i, int other, int j, int n) {
        if (!isSheet(sheet) || !isSheet(other)) {
            return refuse(BEYOND);
        }
        Sheet from = sheets[sheet];
        Sheet to = sheets[other];
        if (from.isMissing() || to.isMissing()) {
            return refuse(NONE);
        }
        if (from.bits != to.bits) {
            return refuse(UNLIKE);
        }
        if (!from.holds(i, n) || !to.holds(j, n)) {
            return refuse(BEYOND);
        }
        System.arraycopy(from.numbers, i, to.numbers, j, n);
        return n;
    }

    public int reads(int sheet) {
        if (!isSheet(sheet)) {
            return refuse(BEYOND);
        }
        Sheet one = sheets[sheet];
        if (one.isMissing()) {
            return refuse(NONE);
        }
        int read = 0;
        while (read < one.size && canTell(0, one.numbers[read])) {
            world.town.write(0, one.numbers[read]);
            read++;
        }
        return read;
    }

    public int judge(int sheet, int debtor) {
        if (!isSheet(sheet) || !isDebtor(debtor)) {
            return refuse(BEYOND);
        }
        Sheet one = sheets[sheet];
        if (one.isMissing()) {
            return refuse(NONE);
        }
        Debtor told = world.town.debtors[debtor];
        int alike = told.alikeFrom(0, one);
        return alike == one.size && alike == told.size ? -1 : alike;
    }

    public int image() {
        kept.copyFrom(world);
        images++;
        return images;
    }

    public int restore() {
        if (images == 0) {
            return refuse(NONE);
        }
        world.copyFrom(kept);
        return world.town.week;
    }

    public int tell(int v) {
        if (world.waiting >= MOST_WAITING) {
            return refuse(FULL);
        }
        world.waits[world.waiting] = v;
        world.waiting++;
        return world.waiting;
    }

    public int check() {
        int asked = world.waiting;
        world.waiting = 0;
        thought.copyFrom(world.town);
        for (int i = 0; i < asked && i < MOST_WAITING; i++) {
            thought.passWeeks(1);
            if (thought.debts() != world.waits[i]) {
                return 1 + i;
            }
        }
        return 0;
    }

    public int count(int what) {
        switch (what) {
            case 0: return world.facts.size;
            case 1: return world.town.size;
            case 2: return world.town.week;
            case 3: return world.meetings.size;
            case 4: return world.town.debts();
            case 5: return world.town.broken();
            case 6: return world.tape.size;
            case 7: return world.waiting;
            case 8: return voices.size;
            case 9: return world.z;
            default: return refuse(BEYOND);
        }
    }

    public int told(int k) {
        return among(k, 1, ERRORS) ? refused[k] : refuse(BEYOND);
    }

    // ---- what the calls share

    private static boolean among(int v, int low, int high) {
        return v >= low && v <= high;
    }

    private boolean isFact(int v) {
        return among(v, 0, world.facts.size - 1);
    }

    private boolean isDebtor(int v) {
        return among(v, 0, world.town.size - 1);
    }

    private static boolean isKind(int v) {
        return among(v, 0, KINDS - 1);
    }

    private static boolean isFigure(int v) {
        return among(v, 0, FIGURES - 1);
    }

    private static boolean isSheet(int v) {
        return among(v, 0, SHEETS - 1);
    }

    private static boolean isUse(int v) {
        return v == PAY || v == TRUST;
    }

    private int refuse(int error) {
        refused[error]++;
        return LOW - error;
    }

    private Law lawOf(int use) {
        return use == PAY ? world.pay : world.trust;
    }

    private boolean canTell(int debtor, int fact) {
        return isDebtor(debtor) && isFact(fact) && !world.town.debtors[debtor].broken
            && (world.town.mayTell(debtor) >> fact & 1) == 1;
    }

    /** What 2 .. 5, 7 of a DEBTOR, as things are or as they would be. */
    private static int stateOf(Town town, int debtor, int what) {
        Debtor one = town.debtors[debtor];
        switch (what) {
            case 2: return one.debt;
            case 3: return one.size;
            case 4: return one.told;
            case 5: return one.broken ? 1 : 0;
            default: return town.openOf(debtor);
        }
    }

    private int searched(int debtor, int what, boolean closing) {
        if (!isDebtor(debtor) || !among(what, -1, MOST_FACTS - 1)) {
            return refuse(BEYOND);
        }
        Debtor one = world.town.debtors[debtor];
        if (one.broken) {
            return refuse(STATE);
        }
        search.begin(one, world.town.othersOf(debtor), world.town.week, closing);
        if (search.length < 0 || what >= search.length) {
            return refuse(NONE);
        }
        return what < 0 ? search.length : search.best[what];
    }

    /** Behind how many WEEKS a DEBTOR with a DUE of r has no DEBT; -1: not by 60. */
    private int weeksUntilFree(int debtor, int r) {
        thought.copyFrom(world.town);
        for (int behind = 0; behind <= MOST_WEEKS; behind++) {
            if (thought.debtors[debtor].debt == 0) {
                return behind;
            }
            thought.passWeek(debtor, r);
        }
        return -1;
    }

    private int bestRate(int debtor) {
        int best = -1;
        int soonest = MOST_WEEKS + 1;
        for (int r = 1; r <= MOST_RATE; r++) {
            int behind = weeksUntilFree(debtor, r);
            if (behind >= 0 && behind < soonest) {
                soonest = behind;
                best = r;
            }
        }
        return best;
    }

    /** Whether a DEBTOR, were it of a KIND, would tell the numbers of a SHEET first. */
    private boolean wouldTell(int debtor, int kind, Sheet sheet) {
        thought.copyFrom(world.town);
        Debtor one = thought.debtors[debtor];
        int ahead = one.size;
        one.kind = kind;
        thought.passWeeks(MOST_WEEKS);
        return one.alikeFrom(ahead, sheet) == sheet.size;
    }

    /** All that an IMAGE keeps. */
    private static final class World {
        final Facts facts = new Facts();
        final Law pay = new Law(PAY);
        final Law trust = new Law(TRUST);
        final Town town = new Town(facts, pay);
        final Meetings meetings = new Meetings();
        final Tape tape = new Tape();
        final int[] waits = new int[MOST_WAITING];
        int waiting;
        int z = 1;

        void copyFrom(World other) {
            facts.copyFrom(other.facts);
            pay.take(other.pay.steps, other.pay.size);
            trust.take(other.trust.steps, other.trust.size);
            town.copyFrom(other.town);
            meetings.copyFrom(other.meetings);
            tape.copyFrom(other.tape);
            System.arraycopy(other.waits, 0, waits, 0, MOST_WAITING);
            waiting = other.waiting;
            z = other.z;
        }

        int draw() {
            z = z * 1103515245 + 12345;
            return z >>> 8;
        }

        void lendByDraws() {
            int who = draw() % MOST_DEBTORS;
            int lent = draw() % 50;
            if (who < town.size && !town.debtors[who].broken) {
                town.debtors[who].owe(lent);
            }
        }

        /** FACTS told in WEEKS up to a WEEK of which a FIGURE is a WITNESS. */
        int witnessed(int figure, int week) {
            int set = 0;
            for (int f = 0; f < facts.size; f++) {
                int first = town.firstWeekOf(f);
                if ((facts.witnesses[f] >> figure & 1) == 1 && first >= 0 && first <= week) {
                    set |= 1 << f;
                }
            }
            return set;
        }

        /** What each FIGURE KNOWS by a WEEK. */
        void gatherKnown(int week, int[] known) {
            Arrays.fill(known, 0);
            for (int i = 0; i < meetings.size && meetings.weeks[i] <= week; i++) {
                int one = meetings.ones[i];
                int other = meetings.others[i];
                int w = meetings.weeks[i];
                int both = known[one] | known[other] | witnessed(one, w) | witnessed(other, w);
                known[one] = both;
                known[other] = both;
            }
            for (int figure = 0; figure < FIGURES; figure++) {
                known[figure] |= witnessed(figure, week);
            }
        }

        /** The first WEEK by which each FIGURE KNOWS a FACT; beyond the last WEEK: by none. */
        void gatherFirstWeeks(int fact, int[] firsts) {
            int first = town.firstWeekOf(fact);
            for (int figure = 0; figure < FIGURES; figure++) {
                boolean sees = (facts.witnesses[fact] >> figure & 1) == 1;
                firsts[figure] = sees && first >= 0 ? first : LAST_WEEK + 1;
            }
            for (int i = 0; i < meetings.size; i++) {
                int one = meetings.ones[i];
                int other = meetings.others[i];
                int w = meetings.weeks[i];
                if (firsts[one] <= w || firsts[other] <= w) {
                    firsts[one] = Math.min(firsts[one], w);
                    firsts[other] = Math.min(firsts[other], w);
                }
            }
        }
    }

    /** FACTS by numbers, and what follows from them for a BOOK given as bits. */
    private static final class Facts {
        final int[] needs = new int[MOST_FACTS];
        final int[] clashes = new int[MOST_FACTS];
        final int[] within = new int[MOST_FACTS];
        final int[] by = new int[MOST_FACTS];
        final int[] witnesses = new int[MOST_FACTS];
        int size;

        int add(int itsNeeds, int itsWitnesses) {
            int number = size;
            if (number < MOST_FACTS) {
                needs[number] = itsNeeds;
                clashes[number] = 0;
                within[number] = 0;
                by[number] = -1;
                witnesses[number] = itsWitnesses;
                size++;
            }
            return number;
        }

        void copyFrom(Facts other) {
            System.arraycopy(other.needs, 0, needs, 0, MOST_FACTS);
            System.arraycopy(other.clashes, 0, clashes, 0, MOST_FACTS);
            System.arraycopy(other.within, 0, within, 0, MOST_FACTS);
            System.arraycopy(other.by, 0, by, 0, MOST_FACTS);
            System.arraycopy(other.witnesses, 0, witnesses, 0, MOST_FACTS);
            size = other.size;
        }

        void setClash(int one, int other, int v) {
            clashes[one] = clashes[one] & ~(1 << other) | v << other;
            clashes[other] = clashes[other] & ~(1 << one) | v << one;
        }

        /** 10 times the less of the first two in a set that CLASH, and the other one; -1: none do. */
        int firstClash(int set) {
            for (int f = 0; f < size; f++) {
                int later = clashes[f] & set & -2 << f;
                if ((set >> f & 1) == 1 && later != 0) {
                    return 10 * f + Integer.numberOfTrailingZeros(later);
                }
            }
            return -1;
        }

        boolean clashBetween(int here, int there) {
            for (int f = 0; f < size; f++) {
                if ((here >> f & 1) == 1 && (clashes[f] & there) != 0) {
                    return true;
                }
            }
            return false;
        }

        /** FACTS, as bits, that one of a KIND MAY TELL behind its BOOK and those of the others. */
        int mayTell(int kind, int m, int book, int others) {
            int set = 0;
            for (int f = 0; f < size; f++) {
                boolean isNew = (book >> f & 1) == 0;
                boolean isRead = (others >> f & 1) == 1;
                boolean goesWith = (clashes[f] & book) == 0;
                int lacks = Integer.bitCount(needs[f] & ~book);
                if (isNew && allows(kind, m, f, lacks, goesWith, isRead)) {
                    set |= 1 << f;
                }
            }
            return set;
        }

        private static boolean allows(int kind, int m, int f, int lacks, boolean goesWith, boolean isRead) {
            switch (kind) {
                case PLAGIARIST:
                case TWIN:
                    return goesWith && (lacks == 0 || isRead);
                case DREAMER:
                    return goesWith && lacks <= m % 3;
                case SEER:
                    return goesWith && lacks <= m % 3 && f != m;
                case GHOST:
                    return lacks == 0;
                case SAINT:
                    return lacks == 0 && (goesWith || m % 2 == 1);
                default:
                    return goesWith && lacks == 0;
            }
        }

        private boolean isOpen(int f, int book) {
            return (book >> f & 1) == 1 && within[f] > 0 && (book >> by[f] & 1) == 0;
        }

        int openIn(int book) {
            int set = 0;
            for (int f = 0; f < size; f++) {
                if (isOpen(f, book)) {
                    set |= 1 << f;
                }
            }
            return set;
        }

        boolean anyOverdue(int book, int[] toldIn, int week) {
            for (int f = 0; f < size; f++) {
                if (isOpen(f, book) && week >= toldIn[f] + within[f]) {
                    return true;
                }
            }
            return false;
        }
    }

    /** A DEBTOR and its BOOK. */
    private static final class Debtor {
        final int[] order = new int[MOST_FACTS];
        /** The WEEK in which each FACT of the BOOK was told, by the number of the FACT. */
        final int[] toldIn = new int[MOST_FACTS];
        int told;
        int size;
        int kind;
        int m;
        int debt;
        boolean broken;

        void copyFrom(Debtor other) {
            System.arraycopy(other.order, 0, order, 0, MOST_FACTS);
            System.arraycopy(other.toldIn, 0, toldIn, 0, MOST_FACTS);
            told = other.told;
            size = other.size;
            kind = other.kind;
            m = other.m;
            debt = other.debt;
            broken = other.broken;
        }

        boolean is(int asked) {
            int one = kind;
            for (int i = 0; i < KINDS && one > asked; i++) {
                one = ABOVE[one];
            }
            return one == asked;
        }

        int due() {
            switch (kind) {
                case GHOST: return 2;
                case TWIN: return 1 + m % 2;
                case SAINT: return 2 - m % 2;
                default: return 1;
            }
        }

        void owe(int more) {
            debt = Math.min(MOST_DEBT, debt + more);
        }

        void letOff() {
            debt = 0;
            told = 0;
            size = 0;
            broken = false;
        }

        void keep(int fact, int week) {
            if (size < MOST_FACTS && fact >= 0 && fact < MOST_FACTS) {
                order[size] = fact;
                toldIn[fact] = week;
                told |= 1 << fact;
                size++;
            }
        }

        /** How many numbers of a SHEET, from its first on, are those of the BOOK from a place on. */
        int alikeFrom(int place, Sheet sheet) {
            int alike = 0;
            while (alike < sheet.size && place + alike < size && order[place + alike] == sheet.numbers[alike]) {
                alike++;
            }
            return alike;
        }
    }

    /** The DEBTORS and the WEEK: what changes as WEEKS go by, so that it can be thought, too. */
    private static final class Town {
        final Debtor[] debtors = new Debtor[MOST_DEBTORS];
        private final Facts facts;
        private final Law pay;
        int size;
        int week;

        Town(Facts facts, Law pay) {
            this.facts = facts;
            this.pay = pay;
            for (int i = 0; i < MOST_DEBTORS; i++) {
                debtors[i] = new Debtor();
            }
        }

        int add(int km, int debt) {
            int number = size;
            if (number < MOST_DEBTORS) {
                debtors[number].letOff();
                debtors[number].kind = km / 10;
                debtors[number].m = km % 10;
                debtors[number].debt = debt;
                size++;
            }
            return number;
        }

        void copyFrom(Town other) {
            for (int i = 0; i < MOST_DEBTORS; i++) {
                debtors[i].copyFrom(other.debtors[i]);
            }
            size = other.size;
            week = other.week;
        }

        int booksWith(int fact) {
            int books = 0;
            for (int i = 0; i < size; i++) {
                books += debtors[i].told >> fact & 1;
            }
            return books;
        }

        /** The first WEEK in which a FACT in a BOOK was told; -1: it is in none. */
        int firstWeekOf(int fact) {
            int first = -1;
            for (int i = 0; i < size; i++) {
                Debtor one = debtors[i];
                if ((one.told >> fact & 1) == 1 && (first < 0 || one.toldIn[fact] < first)) {
                    first = one.toldIn[fact];
                }
            }
            return first;
        }

        int othersOf(int debtor) {
            int set = 0;
            for (int i = 0; i < size; i++) {
                if (i != debtor) {
                    set |= debtors[i].told;
                }
            }
            return set;
        }

        int debts() {
            int sum = 0;
            for (int i = 0; i < size; i++) {
                sum += debtors[i].debt;
            }
            return sum;
        }

        int broken() {
            int sum = 0;
            for (int i = 0; i < size; i++) {
                sum += debtors[i].broken ? 1 : 0;
            }
            return sum;
        }

        int openOf(int debtor) {
            return Integer.bitCount(facts.openIn(debtors[debtor].told));
        }

        int mayTell(int debtor) {
            Debtor one = debtors[debtor];
            return facts.mayTell(one.kind, one.m, one.told, othersOf(debtor));
        }

        /** A FACT comes into the BOOK of a DEBTOR, and pays for it. */
        void write(int debtor, int fact) {
            Debtor one = debtors[debtor];
            int paid = pay.gives(fact, week, one.debt);
            if (one.kind == PLAGIARIST || one.kind == TWIN) {
                paid /= 2;
            } else if (one.kind == SEER) {
                paid *= 2;
            }
            one.debt = Math.max(0, one.debt - paid);
            one.keep(fact, week);
        }

        void passWeeks(int n) {
            for (int i = 0; i < n; i++) {
                passWeek(NOBODY, 0);
            }
        }

        /** A WEEK, with a DUE of r in place of its own for one of the DEBTORS. */
        void passWeek(int rated, int r) {
            for (int i = 0; i < size; i++) {
                if (!debtors[i].broken && debtors[i].debt > 0) {
                    serve(i, i == rated ? r : debtors[i].due());
                }
            }
            week++;
        }

        private void serve(int debtor, int due) {
            Debtor one = debtors[debtor];
            for (int i = 0; i < due && one.debt > 0 && !one.broken; i++) {
                int may = mayTell(debtor);
                if (may == 0) {
                    one.broken = true;
                } else {
                    write(debtor, Integer.numberOfTrailingZeros(may));
                }
            }
            if (facts.anyOverdue(one.told, one.toldIn, week)) {
                one.broken = true;
            }
        }
    }

    /** MEETINGS by WEEKS, those of one WEEK by numbers: nothing asks for one by its number. */
    private static final class Meetings {
        final int[] weeks = new int[MOST_MEETINGS];
        final int[] ones = new int[MOST_MEETINGS];
        final int[] others = new int[MOST_MEETINGS];
        int size;

        int add(int week, int one, int other) {
            int number = size;
            if (number < MOST_MEETINGS) {
                int place = number;
                while (place > 0 && weeks[place - 1] > week) {
                    weeks[place] = weeks[place - 1];
                    ones[place] = ones[place - 1];
                    others[place] = others[place - 1];
                    place--;
                }
                weeks[place] = week;
                ones[place] = one;
                others[place] = other;
                size++;
            }
            return number;
        }

        void copyFrom(Meetings other) {
            System.arraycopy(other.weeks, 0, weeks, 0, MOST_MEETINGS);
            System.arraycopy(other.ones, 0, ones, 0, MOST_MEETINGS);
            System.arraycopy(other.others, 0, others, 0, MOST_MEETINGS);
            size = other.size;
        }
    }

    /** THE TAPE. */
    private static final class Tape {
        final int[] bytes = new int[MOST_BYTES];
        int size;

        void add(int b) {
            if (size < MOST_BYTES) {
                bytes[size] = b;
                size++;
            }
        }

        void copyFrom(Tape other) {
            System.arraycopy(other.bytes, 0, bytes, 0, MOST_BYTES);
            size = other.size;
        }

        /** The byte at a place; -1 behind the last one. */
        int at(int place) {
            return place >= 0 && place < size ? bytes[place] : -1;
        }
    }

    /**
     * The TEXT of a USE as steps that work on a stack: a number from 0 on is itself, -1, -2, -3 are
     * the NAMES in order, any other is a sign, negated.
     */
    private static final class Law {
        final int[] steps = new int[MOST_BYTES];
        private final int[] stack = new int[MOST_BYTES];
        private final int lowest;
        int size;

        Law(int use) {
            int[] usual = use == PAY ? USUAL_PAY : USUAL_TRUST;
            lowest = use == PAY ? 0 : -MOST_HELD;
            size = usual.length;
            System.arraycopy(usual, 0, steps, 0, usual.length);
        }

        void take(int[] other, int itsSize) {
            size = Math.max(0, Math.min(itsSize, MOST_BYTES));
            System.arraycopy(other, 0, steps, 0, size);
        }

        int gives(int a, int b, int c) {
            int top = 0;
            for (int i = 0; i < size && i < MOST_BYTES; i++) {
                int step = steps[i];
                if (step >= -NAMES) {
                    if (top < MOST_BYTES) {
                        stack[top] = step >= 0 ? step : step == -1 ? a : step == -2 ? b : c;
                        top++;
                    }
                } else if (step == -'!') {
                    if (top > 0) {
                        stack[top - 1] = stack[top - 1] == 0 ? 1 : 0;
                    }
                } else if (top > 1) {
                    top--;
                    stack[top - 1] = joins(-step, stack[top - 1], stack[top]);
                }
            }
            int value = top > 0 ? stack[0] : 0;
            return Math.max(lowest, Math.min(value, MOST_HELD));
        }

        private static int joins(int sign, int left, int right) {
            switch (sign) {
                case '|': return left != 0 || right != 0 ? 1 : 0;
                case '&': return left != 0 && right != 0 ? 1 : 0;
                case '<': return left < right ? 1 : 0;
                case '=': return left == right ? 1 : 0;
                case '>': return left > right ? 1 : 0;
                case '+': return left + right;
                case '-': return left - right;
                case '*': return left * right;
                case '/': return right == 0 ? 0 : left / right;
                case '%': return right == 0 ? 0 : left % right;
                default: return 0;
            }
        }
    }

    /** Reads a TEXT from THE TAPE into steps of a Law. */
    private static final class Reader {
        private static final int COMPARING = 2;
        private static final int LAST_LEVEL = 4;
        private static final int MOST_OPEN = 5;
        private static final int MOST_DIGITS = 4;

        final int[] steps = new int[MOST_BYTES];
        int size;
        private Tape tape = new Tape();
        private int use;
        private int place;
        private boolean failed;

        /** Reads all of THE TAPE: the FAULT, or -1. */
        int readAll(Tape from, int itsUse) {
            tape = from;
            use = itsUse;
            size = 0;
            place = 0;
            failed = false;
            readLevel(0, 0);
            return failed || place < tape.size ? place : -1;
        }

        /** T, A, B, S, P of the grammar are levels 0 to 4: signs of a level between parts of the next. */
        private void readLevel(int level, int open) {
            if (level > LAST_LEVEL) {
                readUnit(open);
                return;
            }
            readLevel(level + 1, open);
            for (int i = 0; i < MOST_BYTES && !failed && levelOf(tape.at(place)) == level; i++) {
                int sign = tape.at(place);
                place++;
                readLevel(level + 1, open);
                add(-sign);
                if (level == COMPARING) {
                    return;
                }
            }
        }

        private static int levelOf(int sign) {
            switch (sign) {
                case '|': return 0;
                case '&': return 1;
                case '<':
                case '=':
                case '>': return COMPARING;
                case '+':
                case '-': return 3;
                case '*':
                case '/':
                case '%': return LAST_LEVEL;
                default: return -1;
            }
        }

        private void readUnit(int open) {
            int sign = tape.at(place);
            if (isDigit(sign)) {
                readNumber();
            } else if (nameOf(sign) < 0) {
                place++;
                add(nameOf(sign));
            } else if (sign == '!' && open < MOST_OPEN) {
                place++;
                readUnit(open + 1);
                add(-sign);
            } else if (sign == '(' && open < MOST_OPEN) {
                place++;
                readLevel(0, open + 1);
                readEnd();
            } else {
                failed = true;
            }
        }

        private void readEnd() {
            if (failed || tape.at(place) != ')') {
                failed = true;
            } else {
                place++;
            }
        }

        private void readNumber() {
            int number = 0;
            for (int i = 0; i < MOST_DIGITS && isDigit(tape.at(place)); i++) {
                number = 10 * number + tape.at(place) - '0';
                place++;
            }
            add(number);
        }

        private static boolean isDigit(int sign) {
            return sign >= '0' && sign <= '9';
        }

        /** The step of a NAME of the USE; 0: it is none. */
        private int nameOf(int sign) {
            switch (sign) {
                case 'f': return use == PAY ? -1 : 0;
                case 'w': return use == PAY ? -2 : 0;
                case 'd': return use == PAY ? -3 : -1;
                case 'o': return use == TRUST ? -2 : 0;
                case 'n': return use == TRUST ? -3 : 0;
                default: return 0;
            }
        }

        private void add(int step) {
            if (size < MOST_BYTES) {
                steps[size] = step;
                size++;
            }
        }
    }

    /** Looks for the row of FACTS that SERVED or CLOSED asks for. */
    private static final class Search {
        private static final int NEVER = -1;

        /** The row that was found; its length is below 0 if there is none. */
        final int[] best = new int[MOST_FACTS];
        int length;
        private final Facts facts;
        private final int[] row = new int[MOST_FACTS];
        private final int[] toldIn = new int[MOST_FACTS];
        /** For each BOOK, how late its OPEN ones were told when it was last gone on from. */
        private final long[] seen = new long[ALL_SETS];
        private boolean closing;
        private int kind;
        private int m;
        private int others;
        private int week;
        private int untold;

        Search(Facts facts) {
            this.facts = facts;
        }

        void begin(Debtor one, int itsOthers, int itsWeek, boolean toClose) {
            kind = one.kind;
            m = one.m;
            others = itsOthers;
            week = itsWeek;
            closing = toClose;
            untold = facts.size - one.size;
            length = -1;
            System.arraycopy(one.toldIn, 0, toldIn, 0, MOST_FACTS);
            Arrays.fill(seen, NEVER);
            goOn(0, one.told);
        }

        /** Tries all rows that go on from the one so far, the first as a row first. */
        private void goOn(int depth, int book) {
            if (isBetter(depth, book)) {
                System.arraycopy(row, 0, best, 0, MOST_FACTS);
                length = depth;
            }
            if (depth >= MOST_FACTS || isAsGoodAsCanBe(depth) || wasSeen(book)) {
                return;
            }
            int may = facts.mayTell(kind, m, book, others);
            for (int f = 0; f < MOST_FACTS; f++) {
                if ((may >> f & 1) == 1) {
                    row[depth] = f;
                    toldIn[f] = week + depth;
                    int longer = book | 1 << f;
                    if (!facts.anyOverdue(longer, toldIn, week + depth)) {
                        goOn(depth + 1, longer);
                    }
                }
            }
        }

        /** Whether no row that goes on from one of a length can better what was found. */
        private boolean isAsGoodAsCanBe(int depth) {
            return closing ? length >= 0 && depth + 1 >= length : length >= untold;
        }

        private boolean isBetter(int depth, int book) {
            if (closing) {
                return (length < 0 || depth < length) && facts.openIn(book) == 0;
            }
            return depth > length;
        }

        /**
         * Whether this BOOK was gone on from by an earlier row whose OPEN ones were told no sooner: all
         * that could come now could come then, behind a row that is as long and comes first.
         */
        private boolean wasSeen(int book) {
            if (book < 0 || book >= ALL_SETS) {
                return true;
            }
            long now = lateness(book);
            if (seen[book] != NEVER && isNoLater(now, seen[book])) {
                return true;
            }
            seen[book] = now;
            return false;
        }

        /** Four bits for each FACT: those that aren't OPEN or were told ahead of all rows are alike. */
        private long lateness(int book) {
            int open = facts.openIn(book);
            long all = 0;
            for (int f = 0; f < MOST_FACTS; f++) {
                if ((open >> f & 1) == 1) {
                    all |= (long) Math.max(0, toldIn[f] - week + 1) << 4 * f;
                }
            }
            return all;
        }

        private static boolean isNoLater(long now, long earlier) {
            for (int f = 0; f < MOST_FACTS; f++) {
                if ((now >> 4 * f & 15) > (earlier >> 4 * f & 15)) {
                    return false;
                }
            }
            return true;
        }
    }

    /** The VOICES of a DEBTOR, and THE TRACE. */
    private static final class Voices {
        private static final int DEEPEST = 20;

        final int[] traced = new int[MOST_TRACED];
        int size;
        private int kind;
        private int n;
        private int m;

        int begin(int itsKind, int number, int itsM, int act, int x) {
            kind = itsKind;
            n = number;
            m = itsM;
            size = 0;
            return says(itsKind, act, x, 0);
        }

        /** The BODY for an act from a KIND on, which a call by super gives as the KIND above its own. */
        private int says(int from, int act, int x, int depth) {
            int has = kindWithBody(from, act);
            if (has < 0 || depth > DEEPEST) {
                return 0;
            }
            int body = BODIES[has * ACTS + act];
            int above = ABOVE[has];
            int d = depth + 1;
            add(body);
            switch (body) {
                case 10: return x + n;
                case 11: return says(kind, OWES, x, d) * 2;
                case 12: return x - m;
                case 13: return says(kind, WRITES, x, d) ^ says(kind, READS, x, d);
                case 20: return says(above, WRITES, x, d) - says(kind, READS, 1, d);
                case 30: return says(above, OWES, x, d) * 3;
                case 40: return -says(above, READS, x, d);
                case 50: return says(above, WRITES, x + 1, d);
                case 60: return says(above, TELLS, x, d) - says(kind, OWES, 2, d);
                case 70: return says(above, READS, x, d) ^ n;
                case 71: return says(kind, WRITES, x, d) - says(above, TELLS, x, d);
                default: return 0;
            }
        }

        private static int kindWithBody(int from, int act) {
            int one = from;
            for (int i = 0; i < KINDS && one >= 0 && one < KINDS; i++) {
                if (BODIES[one * ACTS + act] != 0) {
                    return one;
                }
                one = ABOVE[one];
            }
            return -1;
        }

        private void add(int body) {
            if (size < MOST_TRACED) {
                traced[size] = body;
                size++;
            }
        }
    }

    /** A SHEET; with 0 bits it is missing. */
    private static final class Sheet {
        final int[] numbers = new int[MOST_NUMBERS];
        int bits;
        int size;

        boolean isMissing() {
            return bits == 0;
        }

        void begin(int itsBits, int itsSize) {
            bits = itsBits;
            size = Math.max(0, Math.min(itsSize, MOST_NUMBERS));
            Arrays.fill(numbers, 0);
        }

        int lowest(int v) {
            return bits == 32 ? v : v & (1 << bits) - 1;
        }

        /** Whether n numbers stand here from number i on. */
        boolean holds(int i, int n) {
            return n >= 0 && i >= 0 && n <= size && i <= size - n;
        }
    }
}
