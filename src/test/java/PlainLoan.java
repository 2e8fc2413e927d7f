import java.util.ArrayList;
import java.util.Arrays;
import java.util.Comparator;
import java.util.HashSet;
import java.util.List;
import java.util.Set;
import java.util.TreeSet;

/**
 * The document once more, written for reading and without a thought of speed: sets are sets, rows
 * are lists, and what is searched for is searched among all. ModelTest compares ChapterLoan with it.
 */
public final class PlainLoan {
    private static final int LOW = -1000000000;

    private static final class Fact {
        Set<Integer> needs = new TreeSet<>();
        Set<Integer> clashes = new TreeSet<>();
        Set<Integer> witnesses = new TreeSet<>();
        int within;
        int by = -1;

        Fact copy() {
            Fact c = new Fact();
            c.needs.addAll(needs);
            c.clashes.addAll(clashes);
            c.witnesses.addAll(witnesses);
            c.within = within;
            c.by = by;
            return c;
        }
    }

    private record Chapter(int fact, int week) { }

    private static final class Debtor {
        int kind;
        int m;
        int debt;
        boolean broken;
        List<Chapter> book = new ArrayList<>();

        Debtor copy() {
            Debtor c = new Debtor();
            c.kind = kind;
            c.m = m;
            c.debt = debt;
            c.broken = broken;
            c.book.addAll(book);
            return c;
        }

        boolean has(int fact) {
            return book.stream().anyMatch(c -> c.fact == fact);
        }
    }

    private record Meeting(int week, int one, int other) { }

    /** All that an image keeps. */
    private static final class State {
        List<Fact> facts = new ArrayList<>();
        List<Debtor> debtors = new ArrayList<>();
        List<Meeting> meetings = new ArrayList<>();
        List<Integer> tape = new ArrayList<>();
        List<Integer> waits = new ArrayList<>();
        String[] texts = new String[2];
        int week;
        int z = 1;

        State copy() {
            State c = new State();
            facts.forEach(f -> c.facts.add(f.copy()));
            debtors.forEach(d -> c.debtors.add(d.copy()));
            c.meetings.addAll(meetings);
            c.tape.addAll(tape);
            c.waits.addAll(waits);
            c.texts = texts.clone();
            c.week = week;
            c.z = z;
            return c;
        }
    }

    private State s = new State();
    private State kept;
    private int images;
    private final int[] errors = new int[6];
    private final int[][] sheets = new int[4][];
    private final int[] sheetBits = new int[4];
    private List<Integer> trace = new ArrayList<>();

    private int err(int k) {
        errors[k]++;
        return LOW - k;
    }

    private static int bits(Set<Integer> set) {
        return set.stream().mapToInt(i -> 1 << i).sum();
    }

    private static Set<Integer> set(int bits) {
        Set<Integer> all = new TreeSet<>();
        for (int i = 0; i < 31; i++) {
            if ((bits & 1 << i) != 0) {
                all.add(i);
            }
        }
        return all;
    }

    private boolean noFact(int f) {
        return f < 0 || f >= s.facts.size();
    }

    private boolean noDebtor(int d) {
        return d < 0 || d >= s.debtors.size();
    }

    // ---- facts, debtors

    public int fact(int needs, int witnesses) {
        if (needs < 0 || needs > 255 || set(needs).contains(s.facts.size()) || witnesses < 0 || witnesses > 31) {
            return err(1);
        }
        if (s.facts.size() == 8) {
            return err(4);
        }
        Fact f = new Fact();
        f.needs = set(needs);
        f.witnesses = set(witnesses);
        s.facts.add(f);
        return s.facts.size() - 1;
    }

    public int clash(int one, int other, int v) {
        if (noFact(one) || noFact(other) || one == other || v < 0 || v > 1) {
            return err(1);
        }
        boolean did = s.facts.get(one).clashes.contains(other);
        if (v == 1) {
            s.facts.get(one).clashes.add(other);
            s.facts.get(other).clashes.add(one);
        } else {
            s.facts.get(one).clashes.remove(other);
            s.facts.get(other).clashes.remove(one);
        }
        return did ? 1 : 0;
    }

    public int explain(int fact, int within, int by) {
        if (noFact(fact) || within < 0 || within > 9 || within > 0 && (noFact(by) || by == fact)) {
            return err(1);
        }
        int was = s.facts.get(fact).within;
        s.facts.get(fact).within = within;
        s.facts.get(fact).by = by;
        return was;
    }

    public int ofFact(int fact, int what) {
        if (noFact(fact) || what < 0 || what > 5) {
            return err(1);
        }
        Fact f = s.facts.get(fact);
        int books = (int) s.debtors.stream().filter(d -> d.has(fact)).count();
        int[] all = {bits(f.needs), bits(f.clashes), f.within, f.within == 0 ? -1 : f.by, bits(f.witnesses), books};
        return all[what];
    }

    public int debtor(int km, int debt) {
        if (km < 0 || km / 10 > 6 || debt < 0 || debt > 9999) {
            return err(1);
        }
        if (s.debtors.size() == 4) {
            return err(4);
        }
        Debtor d = new Debtor();
        d.kind = km / 10;
        d.m = km % 10;
        d.debt = debt;
        s.debtors.add(d);
        return s.debtors.size() - 1;
    }

    private int lacks(Debtor d, int fact) {
        return (int) s.facts.get(fact).needs.stream().filter(n -> !d.has(n)).count();
    }

    private boolean goesWith(Debtor d, int fact) {
        return s.facts.get(fact).clashes.stream().noneMatch(d::has);
    }

    private boolean may(State in, Debtor d, int kind, int fact) {
        if (d.has(fact)) {
            return false;
        }
        boolean goes = goesWith(d, fact);
        boolean plain = lacks(d, fact) == 0 && goes;
        switch (kind) {
            case 0: return plain;
            case 1:
            case 4: return plain || goes && in.debtors.stream().anyMatch(o -> o != d && o.has(fact));
            case 2: return lacks(d, fact) <= d.m % 3 && goes;
            case 3: return lacks(d, fact) == 0;
            case 5: return may(in, d, 2, fact) && fact != d.m;
            default: return may(in, d, 3, fact) && (goes || d.m % 2 != 0);
        }
    }

    private boolean may(State in, Debtor d, int fact) {
        return may(in, d, d.kind, fact);
    }

    private static int due(int kind, int m) {
        switch (kind) {
            case 3: return 2;
            case 4: return due(1, m) + m % 2;
            case 6: return due(3, m) - m % 2;
            default: return 1;
        }
    }

    private int pays(State in, Debtor d, int kind, int fact) {
        switch (kind) {
            case 1: return pays(in, d, 0, fact) / 2;
            case 4: return pays(in, d, 1, fact);
            case 5: return 2 * pays(in, d, 2, fact);
            default: return gives(0, fact, in.week, d.debt);
        }
    }

    private List<Integer> open(Debtor d) {
        List<Integer> all = new ArrayList<>();
        for (Chapter c : d.book) {
            Fact f = s.facts.get(c.fact);
            if (f.within > 0 && !d.has(f.by)) {
                all.add(c.fact);
            }
        }
        return all;
    }

    private boolean anyOverdue(Debtor d, int week) {
        List<Integer> open = open(d);
        return d.book.stream().anyMatch(c -> open.contains(c.fact) && week - c.week >= s.facts.get(c.fact).within);
    }

    private void writes(State in, Debtor d, int fact) {
        int less = pays(in, d, d.kind, fact);
        d.debt = d.debt > less ? d.debt - less : 0;
        d.book.add(new Chapter(fact, in.week));
    }

    private void week(State in, int rated, int rate) {
        for (int i = 0; i < in.debtors.size(); i++) {
            Debtor d = in.debtors.get(i);
            if (d.broken || d.debt == 0) {
                continue;
            }
            int due = i == rated ? rate : due(d.kind, d.m);
            for (int k = 0; k < due; k++) {
                if (d.debt > 0) {
                    int least = 0;
                    while (least < s.facts.size() && !may(in, d, least)) {
                        least++;
                    }
                    if (least == s.facts.size()) {
                        d.broken = true;
                        break;
                    }
                    writes(in, d, least);
                }
            }
            if (anyOverdue(d, in.week)) {
                d.broken = true;
            }
        }
        in.week++;
    }

    private static int stateOf(Debtor d, int what, int open) {
        switch (what) {
            case 2: return d.debt;
            case 3: return d.book.size();
            case 4: return d.book.stream().mapToInt(c -> 1 << c.fact).sum();
            case 5: return d.broken ? 1 : 0;
            default: return open;
        }
    }

    public int ofDebtor(int debtor, int what) {
        if (noDebtor(debtor) || what < 0 || what > 9) {
            return err(1);
        }
        Debtor d = s.debtors.get(debtor);
        switch (what) {
            case 0: return d.kind;
            case 1: return d.m;
            case 6: return due(d.kind, d.m);
            case 8:
                int sum = 0;
                for (int f = 0; f < s.facts.size(); f++) {
                    sum += may(s, d, f) ? 1 << f : 0;
                }
                return sum;
            case 9: return gives(1, d.debt, open(d).size(), d.book.size());
            default: return stateOf(d, what, open(d).size());
        }
    }

    public int book(int debtor, int i, int what) {
        if (noDebtor(debtor) || what < 0 || what > 1) {
            return err(1);
        }
        List<Chapter> book = s.debtors.get(debtor).book;
        if (i < 0 || i >= book.size()) {
            return err(2);
        }
        return what == 0 ? book.get(i).fact : book.get(i).week;
    }

    public int become(int debtor, int km) {
        if (noDebtor(debtor) || km < 0 || km / 10 > 6) {
            return err(1);
        }
        int was = s.debtors.get(debtor).kind;
        s.debtors.get(debtor).kind = km / 10;
        s.debtors.get(debtor).m = km % 10;
        return was;
    }

    private static final int[][] KINDS_OF = {{0}, {0, 1}, {0, 2}, {0, 3}, {0, 1, 4}, {0, 2, 5}, {0, 3, 6}};

    public int as(int debtor, int kind) {
        if (noDebtor(debtor) || kind < 0 || kind > 6) {
            return err(1);
        }
        Debtor d = s.debtors.get(debtor);
        for (int k : KINDS_OF[d.kind]) {
            if (k == kind) {
                return d.m;
            }
        }
        return err(5);
    }

    // ---- chapters

    public int lend(int debtor, int n) {
        if (noDebtor(debtor) || n < 1 || n > 999) {
            return err(1);
        }
        Debtor d = s.debtors.get(debtor);
        if (d.broken) {
            return err(3);
        }
        d.debt = d.debt + n > 9999 ? 9999 : d.debt + n;
        return d.debt;
    }

    public int tells(int debtor, int fact) {
        if (noDebtor(debtor) || noFact(fact)) {
            return err(1);
        }
        Debtor d = s.debtors.get(debtor);
        if (d.broken || !may(s, d, fact)) {
            return err(3);
        }
        writes(s, d, fact);
        return d.debt;
    }

    public int pardon(int debtor) {
        if (noDebtor(debtor)) {
            return err(1);
        }
        Debtor d = s.debtors.get(debtor);
        if (!d.broken) {
            return err(3);
        }
        int were = d.book.size();
        d.debt = 0;
        d.book.clear();
        d.broken = false;
        return were;
    }

    private int allBroken() {
        return (int) s.debtors.stream().filter(d -> d.broken).count();
    }

    public int weeks(int n) {
        if (n < 1 || n > 60) {
            return err(1);
        }
        if (s.week + n > 999) {
            return err(3);
        }
        for (int i = 0; i < n; i++) {
            week(s, -1, 0);
        }
        return allBroken();
    }

    private int draw() {
        s.z = (int) (s.z * 1103515245L + 12345L);
        return (int) ((s.z & 0xffffffffL) / 256);
    }

    public int loose(int n) {
        if (n < 1 || n > 60) {
            return err(1);
        }
        if (s.week + n > 999) {
            return err(3);
        }
        for (int i = 0; i < n; i++) {
            int who = draw() % 4;
            int lent = draw() % 50;
            if (who < s.debtors.size() && !s.debtors.get(who).broken) {
                s.debtors.get(who).debt = Math.min(9999, s.debtors.get(who).debt + lent);
            }
            week(s, -1, 0);
        }
        return allBroken();
    }

    public int then(int n, int debtor, int what) {
        if (n < 0 || n > 60 || noDebtor(debtor) || !Set.of(2, 3, 4, 5, 7).contains(what)) {
            return err(1);
        }
        State thought = s.copy();
        for (int i = 0; i < n; i++) {
            week(thought, -1, 0);
        }
        Debtor d = thought.debtors.get(debtor);
        return stateOf(d, what, open(d).size());
    }

    // ---- texts

    public int feed(long word, int n) {
        if (n < 1 || n > 8) {
            return err(1);
        }
        if (s.tape.size() + n > 50) {
            return err(4);
        }
        long rest = word;
        for (int i = 0; i < n; i++) {
            s.tape.add((int) (rest & 0xff));
            rest >>= 8;
        }
        return s.tape.size();
    }

    private static final String[] NAMES = {"fwd", "don"};

    /** Goes byte by byte through what a TEXT could be so far: -1: a TEXT. */
    private static int fault(String text, String names) {
        List<Character> opened = new ArrayList<>();
        List<Boolean> comparedOutside = new ArrayList<>();
        boolean compared = false;
        boolean behind = false;
        int digits = 0;
        for (int i = 0; i < text.length(); i++) {
            char c = text.charAt(i);
            boolean digit = c >= '0' && c <= '9';
            if (!behind) {
                if (c == '!' || c == '(') {
                    if (opened.size() == 5) {
                        return i;
                    }
                    opened.add(c);
                    if (c == '(') {
                        comparedOutside.add(compared);
                        compared = false;
                    }
                    continue;
                }
                if (!digit && names.indexOf(c) < 0) {
                    return i;
                }
                digits = digit ? 1 : 0;
            } else if (digit && digits > 0 && digits < 4) {
                digits++;
                continue;
            } else if (c == ')' && !comparedOutside.isEmpty()) {
                opened.remove(opened.size() - 1);
                compared = comparedOutside.remove(comparedOutside.size() - 1);
                digits = 0;
            } else if ("|&<=>+-*/%".indexOf(c) >= 0 && !("<=>".indexOf(c) >= 0 && compared)) {
                compared = "<=>".indexOf(c) >= 0 || compared && "|&".indexOf(c) < 0;
                behind = false;
                continue;
            } else {
                return i;
            }
            behind = true;
            while (!opened.isEmpty() && opened.get(opened.size() - 1) == '!') {
                opened.remove(opened.size() - 1);
            }
        }
        return behind && opened.isEmpty() ? -1 : text.length();
    }

    /** What a TEXT gives: it is parted at its last sign of the loosest kind outside of brackets. */
    private static int worth(String t, String names, int[] values) {
        for (String signs : List.of("|", "&", "<=>", "+-", "*/%")) {
            int depth = 0;
            for (int i = t.length() - 1; i >= 0; i--) {
                char c = t.charAt(i);
                depth += c == ')' ? 1 : c == '(' ? -1 : 0;
                if (depth == 0 && signs.indexOf(c) >= 0) {
                    return two(c, worth(t.substring(0, i), names, values), worth(t.substring(i + 1), names, values));
                }
            }
        }
        if (t.charAt(0) == '!') {
            return worth(t.substring(1), names, values) == 0 ? 1 : 0;
        }
        if (t.charAt(0) == '(') {
            return worth(t.substring(1, t.length() - 1), names, values);
        }
        int name = names.indexOf(t.charAt(0));
        return name >= 0 ? values[name] : Integer.parseInt(t);
    }

    private static int two(char sign, int a, int b) {
        long la = a;
        long lb = b;
        switch (sign) {
            case '|': return a != 0 || b != 0 ? 1 : 0;
            case '&': return a != 0 && b != 0 ? 1 : 0;
            case '<': return la - lb < 0 ? 1 : 0;
            case '=': return la - lb == 0 ? 1 : 0;
            case '>': return la - lb > 0 ? 1 : 0;
            case '+': return (int) (la + lb);
            case '-': return (int) (la - lb);
            case '*': return (int) (la * lb);
            case '/': return b == 0 ? 0 : (int) (la / lb);
            default: return b == 0 ? 0 : (int) (la % lb);
        }
    }

    public int text(int use) {
        if (use < 0 || use > 1) {
            return err(1);
        }
        StringBuilder b = new StringBuilder();
        s.tape.forEach(i -> b.append((char) (int) i));
        s.tape.clear();
        int fault = fault(b.toString(), NAMES[use]);
        if (fault >= 0) {
            return -10 - fault;
        }
        s.texts[use] = b.toString();
        return 1;
    }

    private int gives(int use, int a, int b, int c) {
        String text = s.texts[use] == null ? List.of("10", "10*n-5*o-d").get(use) : s.texts[use];
        int v = worth(text, NAMES[use], new int[] {a, b, c});
        int low = use == 0 ? 0 : -999;
        return v < low ? low : v > 999 ? 999 : v;
    }

    public int law(int use, int a, int b, int c) {
        return use < 0 || use > 1 ? err(1) : gives(use, a, b, c);
    }

    // ---- what would be

    private void allRows(Debtor d, List<Integer> row, List<List<Integer>> served, List<List<Integer>> closed) {
        served.add(List.copyOf(row));
        if (open(d).isEmpty()) {
            closed.add(List.copyOf(row));
        }
        for (int f = 0; f < s.facts.size(); f++) {
            if (may(s, d, f)) {
                int week = s.week + row.size();
                d.book.add(new Chapter(f, week));
                row.add(f);
                if (!anyOverdue(d, week)) {
                    allRows(d, row, served, closed);
                }
                row.remove(row.size() - 1);
                d.book.remove(d.book.size() - 1);
            }
        }
    }

    private int searched(int debtor, int what, boolean closing) {
        if (noDebtor(debtor) || what < -1 || what > 7) {
            return err(1);
        }
        if (s.debtors.get(debtor).broken) {
            return err(3);
        }
        List<List<Integer>> served = new ArrayList<>();
        List<List<Integer>> closed = new ArrayList<>();
        allRows(s.debtors.get(debtor), new ArrayList<>(), served, closed);
        List<List<Integer>> rows = closing ? closed : served;
        Comparator<List<Integer>> shorter = Comparator.comparingInt(List::size);
        Comparator<List<Integer>> first = Comparator.comparing(Object::toString);
        List<Integer> row = rows.stream().min((closing ? shorter : shorter.reversed()).thenComparing(first)).orElse(null);
        if (row == null || what >= row.size()) {
            return err(2);
        }
        return what == -1 ? row.size() : row.get(what);
    }

    public int served(int debtor, int what) {
        return searched(debtor, what, false);
    }

    public int closed(int debtor, int what) {
        return searched(debtor, what, true);
    }

    public int clashOf(int set) {
        if (set < 0 || set(set).stream().anyMatch(this::noFact)) {
            return err(1);
        }
        for (int a : set(set)) {
            for (int b : set(set)) {
                if (s.facts.get(a).clashes.contains(b)) {
                    return 10 * a + b;
                }
            }
        }
        return err(2);
    }

    public int joined(int one, int other) {
        if (noDebtor(one) || noDebtor(other) || one == other) {
            return err(1);
        }
        Set<Integer> all = new HashSet<>();
        for (Chapter a : s.debtors.get(one).book) {
            all.add(a.fact);
            for (Chapter b : s.debtors.get(other).book) {
                all.add(b.fact);
                if (s.facts.get(a.fact).clashes.contains(b.fact)) {
                    return err(2);
                }
            }
        }
        s.debtors.get(other).book.forEach(c -> all.add(c.fact));
        return bits(all);
    }

    private int freeBehind(int debtor, int r) {
        State thought = s.copy();
        for (int behind = 0; behind <= 60; behind++) {
            if (thought.debtors.get(debtor).debt == 0) {
                return behind;
            }
            week(thought, debtor, r);
        }
        return 1000;
    }

    public int rated(int debtor, int r, int what) {
        if (noDebtor(debtor) || r < 1 || r > 4 || what < 0 || what > 1) {
            return err(1);
        }
        int best = r;
        if (what == 1) {
            best = 1;
            for (int other = 2; other <= 4; other++) {
                best = freeBehind(debtor, other) < freeBehind(debtor, best) ? other : best;
            }
        }
        int behind = freeBehind(debtor, best);
        return behind == 1000 ? err(2) : what == 0 ? behind : best;
    }

    public int explained(int debtor, int sheet) {
        if (noDebtor(debtor) || sheet < 0 || sheet > 3) {
            return err(1);
        }
        if (sheets[sheet] == null) {
            return err(2);
        }
        List<Integer> asked = Arrays.stream(sheets[sheet]).boxed().toList();
        for (int kind = 0; kind < 7; kind++) {
            State thought = s.copy();
            Debtor d = thought.debtors.get(debtor);
            int ahead = d.book.size();
            d.kind = kind;
            for (int i = 0; i < 60; i++) {
                week(thought, -1, 0);
            }
            List<Integer> told = d.book.stream().skip(ahead).map(Chapter::fact).toList();
            if (told.size() >= asked.size() && told.subList(0, asked.size()).equals(asked)) {
                return kind;
            }
        }
        return err(2);
    }

    // ---- who knows

    public int meeting(int week, int one, int other) {
        if (week < 0 || week > 999 || one < 0 || one > 4 || other < 0 || other > 4 || one == other) {
            return err(1);
        }
        if (s.meetings.size() == 12) {
            return err(4);
        }
        s.meetings.add(new Meeting(week, one, other));
        return s.meetings.size() - 1;
    }

    /** Goes through the WEEKS one by one, in each first what is told, then the MEETINGS. */
    private List<Set<Integer>> known(int until) {
        List<Set<Integer>> known = new ArrayList<>();
        for (int i = 0; i < 5; i++) {
            known.add(new TreeSet<>());
        }
        for (int week = 0; week <= until; week++) {
            for (Debtor d : s.debtors) {
                for (Chapter c : d.book) {
                    if (c.week == week) {
                        s.facts.get(c.fact).witnesses.forEach(w -> known.get(w).add(c.fact));
                    }
                }
            }
            for (Meeting m : s.meetings) {
                if (m.week == week) {
                    known.get(m.one).addAll(known.get(m.other));
                    known.get(m.other).addAll(known.get(m.one));
                }
            }
        }
        return known;
    }

    public int knows(int figure, int week) {
        return figure < 0 || figure > 4 || week < 0 || week > 999 ? err(1) : bits(known(week).get(figure));
    }

    public int common(int set, int week) {
        if (set < 1 || set > 31 || week < 0 || week > 999) {
            return err(1);
        }
        List<Set<Integer>> known = known(week);
        Set<Integer> all = set(255);
        set(set).forEach(figure -> all.retainAll(known.get(figure)));
        return bits(all);
    }

    public int since(int figure, int fact) {
        if (figure < 0 || figure > 4 || noFact(fact)) {
            return err(1);
        }
        Set<Integer> weeks = new TreeSet<>();
        s.meetings.forEach(m -> weeks.add(m.week));
        s.debtors.forEach(d -> d.book.forEach(c -> weeks.add(c.week)));
        for (int week : weeks) {
            if (known(week).get(figure).contains(fact)) {
                return week;
            }
        }
        return err(2);
    }

    // ---- draws, voices, sheets, images, what is told

    public int seed(int v) {
        int was = s.z;
        s.z = v;
        return was;
    }

    private int n;
    private int m;

    private static class Owner {
        final PlainLoan p;

        Owner(PlainLoan p) {
            this.p = p;
        }

        int owes(int x) {
            p.trace.add(10);
            return x + p.n;
        }

        int writes(int x) {
            p.trace.add(11);
            return owes(x) * 2;
        }

        int reads(int x) {
            p.trace.add(12);
            return x - p.m;
        }

        int tells(int x) {
            p.trace.add(13);
            return writes(x) ^ reads(x);
        }
    }

    private static class Plagiarist extends Owner {
        Plagiarist(PlainLoan p) {
            super(p);
        }

        @Override
        int writes(int x) {
            p.trace.add(20);
            return super.writes(x) - reads(1);
        }
    }

    private static class Dreamer extends Owner {
        Dreamer(PlainLoan p) {
            super(p);
        }

        @Override
        int owes(int x) {
            p.trace.add(30);
            return super.owes(x) * 3;
        }
    }

    private static class Ghost extends Owner {
        Ghost(PlainLoan p) {
            super(p);
        }

        @Override
        int reads(int x) {
            p.trace.add(40);
            return -super.reads(x);
        }
    }

    private static final class Twin extends Plagiarist {
        Twin(PlainLoan p) {
            super(p);
        }

        @Override
        int writes(int x) {
            p.trace.add(50);
            return super.writes(x + 1);
        }
    }

    private static final class Seer extends Dreamer {
        Seer(PlainLoan p) {
            super(p);
        }

        @Override
        int tells(int x) {
            p.trace.add(60);
            return super.tells(x) - owes(2);
        }
    }

    private static final class Saint extends Ghost {
        Saint(PlainLoan p) {
            super(p);
        }

        @Override
        int reads(int x) {
            p.trace.add(70);
            return super.reads(x) ^ p.n;
        }

        @Override
        int tells(int x) {
            p.trace.add(71);
            return writes(x) - super.tells(x);
        }
    }

    public int voice(int debtor, int act, int x) {
        if (noDebtor(debtor) || act < 0 || act > 3) {
            return err(1);
        }
        n = debtor;
        m = s.debtors.get(debtor).m;
        trace = new ArrayList<>();
        List<Owner> kinds = List.of(new Owner(this), new Plagiarist(this), new Dreamer(this), new Ghost(this),
            new Twin(this), new Seer(this), new Saint(this));
        Owner o = kinds.get(s.debtors.get(debtor).kind);
        return act == 0 ? o.owes(x) : act == 1 ? o.writes(x) : act == 2 ? o.reads(x) : o.tells(x);
    }

    public int trace(int i) {
        return i < 0 || i >= trace.size() || i >= 40 ? err(2) : trace.get(i);
    }

    public int sheet(int sheet, int bits, int n) {
        if (sheet < 0 || sheet > 3 || !Set.of(0, 8, 16, 32).contains(bits)) {
            return err(1);
        }
        if (bits == 0) {
            sheets[sheet] = null;
            return 1;
        }
        if (n < 0) {
            return err(3);
        }
        if (n > 40) {
            return err(1);
        }
        sheets[sheet] = new int[n];
        sheetBits[sheet] = bits;
        return 1;
    }

    public int put(int sheet, int i, int v) {
        if (sheet < 0 || sheet > 3) {
            return err(1);
        }
        if (sheets[sheet] == null) {
            return err(2);
        }
        if (i < 0 || i >= sheets[sheet].length) {
            return err(1);
        }
        sheets[sheet][i] = sheetBits[sheet] == 8 ? (byte) v : sheetBits[sheet] == 16 ? (short) v : v;
        return 1;
    }

    public int move(int sheet, int i, int other, int j, int n) {
        if (sheet < 0 || sheet > 3 || other < 0 || other > 3) {
            return err(1);
        }
        if (sheets[sheet] == null || sheets[other] == null) {
            return err(2);
        }
        if (sheetBits[sheet] != sheetBits[other]) {
            return err(5);
        }
        if (n < 0 || i < 0 || j < 0 || (long) i + n > sheets[sheet].length || (long) j + n > sheets[other].length) {
            return err(1);
        }
        int[] were = sheets[sheet].clone();
        for (int k = 0; k < n; k++) {
            sheets[other][j + k] = were[i + k];
        }
        return n;
    }

    public int reads(int sheet) {
        if (sheet < 0 || sheet > 3) {
            return err(1);
        }
        if (sheets[sheet] == null) {
            return err(2);
        }
        int were = 0;
        for (int f : sheets[sheet]) {
            if (noDebtor(0) || noFact(f) || s.debtors.get(0).broken || !may(s, s.debtors.get(0), f)) {
                break;
            }
            writes(s, s.debtors.get(0), f);
            were++;
        }
        return were;
    }

    public int judge(int sheet, int debtor) {
        if (sheet < 0 || sheet > 3 || noDebtor(debtor)) {
            return err(1);
        }
        if (sheets[sheet] == null) {
            return err(2);
        }
        return Arrays.mismatch(sheets[sheet], s.debtors.get(debtor).book.stream().mapToInt(Chapter::fact).toArray());
    }

    public int image() {
        kept = s.copy();
        return ++images;
    }

    public int restore() {
        if (kept == null) {
            return err(2);
        }
        s = kept.copy();
        return s.week;
    }

    public int tell(int v) {
        if (s.waits.size() == 20) {
            return err(4);
        }
        s.waits.add(v);
        return s.waits.size();
    }

    public int check() {
        List<Integer> asked = new ArrayList<>(s.waits);
        s.waits.clear();
        State thought = s.copy();
        for (int i = 0; i < asked.size(); i++) {
            week(thought, -1, 0);
            if (thought.debtors.stream().mapToInt(d -> d.debt).sum() != asked.get(i)) {
                return 1 + i;
            }
        }
        return 0;
    }

    public int count(int what) {
        if (what < 0 || what > 9) {
            return err(1);
        }
        int[] all = {s.facts.size(), s.debtors.size(), s.week, s.meetings.size(),
            s.debtors.stream().mapToInt(d -> d.debt).sum(), allBroken(), s.tape.size(), s.waits.size(),
            Math.min(40, trace.size()), s.z};
        return all[what];
    }

    public int told(int k) {
        return k < 1 || k > 5 ? err(1) : errors[k];
    }
}
