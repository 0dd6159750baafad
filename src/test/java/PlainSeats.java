import java.util.ArrayList;
import java.util.List;

/**
 * The document once more, as slowly and as literally as it reads: sets are tried one after the other, countings are
 * tried by recursion, every act keeps a whole copy. KeptSeats is compared with it.
 */
final class PlainSeats {
    static final int UNKNOWN = -1, OUTSIDE = -2, STATE = -3, FULL = -4, NONE = -9;

    private static final class Person {
        int number, mark, ticket, kind, groups, standing;
        int[] note; // kind, group, passed on; null for no note

        Person copy() {
            Person c = new Person();
            c.number = number;
            c.mark = mark;
            c.ticket = ticket;
            c.kind = kind;
            c.groups = groups;
            c.standing = standing;
            c.note = note;
            return c;
        }

        boolean active() {
            return standing == 0 || standing == 1 || standing == 2;
        }

        boolean ahead(Person o) {
            if (mark != o.mark) {
                return mark > o.mark;
            }
            if (ticket != o.ticket) {
                return ticket < o.ticket;
            }
            return number < o.number;
        }

        boolean candidateOf(int k) {
            return k == 0 || kind == k;
        }
    }

    private static final class World {
        List<Person> people = new ArrayList<>();
        int[] seats = new int[4];
        int[][] reserved = new int[4][4];
        int[] heirs = {NONE, NONE, NONE, NONE};
        int[] order = {0, 1, 2, 3};
        int manner = 0;
        int rounds = 0;

        World copy() {
            World w = new World();
            for (Person p : people) {
                w.people.add(p.copy());
            }
            w.seats = seats.clone();
            for (int k = 0; k < 4; k++) {
                w.reserved[k] = reserved[k].clone();
            }
            w.heirs = heirs.clone();
            w.order = order.clone();
            w.manner = manner;
            w.rounds = rounds;
            return w;
        }

        List<Person> ranking() {
            List<Person> list = new ArrayList<>(people);
            list.sort((a, b) -> a.ahead(b) ? -1 : b.ahead(a) ? 1 : 0);
            return list;
        }

        int free(int kind) {
            int n = seats[kind];
            for (Person p : people) {
                if (p.standing == 3 && p.note[0] == kind) {
                    n--;
                }
            }
            return n < 0 ? 0 : n;
        }

        int[] freeReserved(int kind) {
            int[] n = reserved[kind].clone();
            for (int g = 0; g < 4; g++) {
                for (Person p : people) {
                    if (p.standing == 3 && p.note[0] == kind && p.note[1] == g) {
                        n[g]--;
                    }
                }
                n[g] = n[g] < 0 ? 0 : n[g];
            }
            return n;
        }
    }

    /** Greatest number of those from i on who can be counted, every way tried. */
    private static int fill(List<Person> set, int i, int[] left) {
        if (i == set.size()) {
            return 0;
        }
        int best = fill(set, i + 1, left);
        for (int g = 0; g < 4; g++) {
            if ((set.get(i).groups >> g & 1) == 1 && left[g] > 0 && best < set.size() - i) {
                left[g]--;
                best = Math.max(best, 1 + fill(set, i + 1, left));
                left[g]++;
            }
        }
        return best;
    }

    private static int fill(List<Person> set, int[] left) {
        return fill(set, 0, left.clone());
    }

    /** Number of ways to count exactly n of those from i on. */
    private static long waysOf(List<Person> set, int i, int n, int[] left) {
        if (n > set.size() - i) {
            return 0;
        }
        if (i == set.size()) {
            return 1;
        }
        long sum = waysOf(set, i + 1, n, left);
        for (int g = 0; g < 4 && n > 0; g++) {
            if ((set.get(i).groups >> g & 1) == 1 && left[g] > 0) {
                left[g]--;
                sum += waysOf(set, i + 1, n - 1, left);
                left[g]++;
            }
        }
        return sum;
    }

    private static final class Picked {
        int[] seat = new int[16];
        int[] group = new int[16];
        boolean[] passed = new boolean[16];
        List<List<Person>> taken = new ArrayList<>();

        boolean in(Person p) {
            return seat[p.number] != NONE;
        }
    }

    /** The sets of a size in the order in which they win; the first with the greatest fill is kept. */
    private static final class Search {
        final List<Person> from;
        final int size;
        final int[] left;
        final int cap;
        int bestFill = -1;
        List<Person> best = new ArrayList<>();

        Search(List<Person> from, int size, int[] left) {
            this.from = from;
            this.size = size;
            this.left = left;
            int sum = 0;
            for (int n : left) {
                sum += n;
            }
            int grouped = 0;
            for (Person p : from) {
                grouped += p.groups != 0 ? 1 : 0;
            }
            this.cap = Math.min(Math.min(size, sum), grouped);
        }

        void go(int i, List<Person> chosen) {
            if (bestFill == cap) {
                return;
            }
            if (chosen.size() == size) {
                int f = fill(chosen, left);
                if (f > bestFill) {
                    bestFill = f;
                    best = new ArrayList<>(chosen);
                }
                return;
            }
            if (from.size() - i < size - chosen.size()) {
                return;
            }
            chosen.add(from.get(i));
            go(i + 1, chosen);
            chosen.remove(chosen.size() - 1);
            go(i + 1, chosen);
        }
    }

    private static Picked pick(World w) {
        Picked c = new Picked();
        for (int i = 0; i < 16; i++) {
            c.seat[i] = NONE;
            c.group[i] = NONE;
        }
        for (int k = 0; k < 4; k++) {
            c.taken.add(new ArrayList<>());
        }
        List<Person> ranking = w.ranking();
        for (int kind : w.order) {
            List<Person> candidates = new ArrayList<>();
            for (Person p : ranking) {
                if (p.active() && p.candidateOf(kind) && !c.in(p)) {
                    candidates.add(p);
                }
            }
            takeIn(w, c, kind, candidates);
        }
        for (int kind : w.order) {
            if (kind != 0) {
                passOn(w, c, kind, ranking);
            }
        }
        return c;
    }

    private static void takeIn(World w, Picked c, int kind, List<Person> candidates) {
        int size = Math.min(w.free(kind), candidates.size());
        int[] left = w.freeReserved(kind);
        List<Person> taken = new ArrayList<>();
        if (w.manner == 0) {
            Search s = new Search(candidates, size, left);
            s.go(0, new ArrayList<>());
            taken = s.best;
        } else if (w.manner == 2) {
            taken = new ArrayList<>(candidates.subList(0, size));
        } else {
            for (int g = 0; g < 4; g++) {
                int n = left[g];
                for (Person p : candidates) {
                    if (n > 0 && taken.size() < size && !taken.contains(p) && (p.groups >> g & 1) == 1) {
                        taken.add(p);
                        c.group[p.number] = g;
                        n--;
                    }
                }
            }
            for (Person p : candidates) {
                if (taken.size() < size && !taken.contains(p)) {
                    taken.add(p);
                }
            }
            taken.sort((a, b) -> a.ahead(b) ? -1 : b.ahead(a) ? 1 : 0);
        }
        for (Person p : taken) {
            c.seat[p.number] = kind;
        }
        c.taken.set(kind, taken);
        if (w.manner != 1) {
            countThem(c, taken, left);
        }
    }

    private static void countThem(Picked c, List<Person> taken, int[] left) {
        int goal = fill(taken, left);
        int done = 0;
        for (int i = 0; i < taken.size(); i++) {
            Person p = taken.get(i);
            for (int g = 0; g < 4 && c.group[p.number] == NONE; g++) {
                if ((p.groups >> g & 1) == 1 && left[g] > 0) {
                    left[g]--;
                    if (done + 1 + fill(taken.subList(i + 1, taken.size()), left) == goal) {
                        c.group[p.number] = g;
                        done++;
                    } else {
                        left[g]++;
                    }
                }
            }
        }
    }

    private static void passOn(World w, Picked c, int kind, List<Person> ranking) {
        int vacant = w.free(kind) - c.taken.get(kind).size();
        for (int n = 0; n < vacant; n++) {
            List<Integer> reached = new ArrayList<>();
            int next = w.heirs[kind];
            while (next != NONE && next != kind && !reached.contains(next)) {
                reached.add(next);
                next = w.heirs[next];
            }
            Person gets = null;
            for (int r : reached) {
                for (Person p : ranking) {
                    if (gets == null && p.active() && p.candidateOf(r) && !c.in(p)) {
                        gets = p;
                    }
                }
            }
            if (gets != null) {
                c.seat[gets.number] = kind;
                c.passed[gets.number] = true;
            }
        }
    }

    private World w = new World();
    private final List<World> before = new ArrayList<>();

    private Person person(int p) {
        return p >= 0 && p < w.people.size() ? w.people.get(p) : null;
    }

    private static boolean out(int v, int from, int to) {
        return v < from || v > to;
    }

    private void act() {
        before.add(w.copy());
        if (before.size() > 24) {
            before.remove(0);
        }
    }

    int enter(int mark, int ticket, int kind, int groups) {
        if (out(mark, 0, 99) || out(ticket, 0, 999) || out(kind, 0, 3) || out(groups, 0, 15)) {
            return OUTSIDE;
        }
        if (w.people.size() == 16) {
            return FULL;
        }
        act();
        Person p = new Person();
        p.number = w.people.size();
        p.mark = mark;
        p.ticket = ticket;
        p.kind = kind;
        p.groups = groups;
        w.people.add(p);
        return p.number;
    }

    int mark(int p, int v) {
        if (person(p) == null) {
            return UNKNOWN;
        }
        if (out(v, 0, 99)) {
            return OUTSIDE;
        }
        act();
        int old = person(p).mark;
        person(p).mark = v;
        return old;
    }

    int ticket(int p, int v) {
        if (person(p) == null) {
            return UNKNOWN;
        }
        if (out(v, 0, 999)) {
            return OUTSIDE;
        }
        act();
        int old = person(p).ticket;
        person(p).ticket = v;
        return old;
    }

    int kind(int p, int v) {
        if (person(p) == null) {
            return UNKNOWN;
        }
        if (out(v, 0, 3)) {
            return OUTSIDE;
        }
        act();
        int old = person(p).kind;
        person(p).kind = v;
        return old;
    }

    int groups(int p, int set) {
        if (person(p) == null) {
            return UNKNOWN;
        }
        if (out(set, 0, 15)) {
            return OUTSIDE;
        }
        act();
        int old = person(p).groups;
        person(p).groups = set;
        return old;
    }

    int ofPerson(int p, int what) {
        Person x = person(p);
        if (x == null) {
            return UNKNOWN;
        }
        if (out(what, 0, 5)) {
            return OUTSIDE;
        }
        int ahead = w.ranking().indexOf(x);
        return new int[] {x.mark, x.ticket, x.kind, x.groups, x.standing, ahead}[what];
    }

    int ranked(int k) {
        if (out(k, 0, 15)) {
            return OUTSIDE;
        }
        return k < w.people.size() ? w.ranking().get(k).number : NONE;
    }

    int above(int v) {
        if (out(v, 0, 99)) {
            return OUTSIDE;
        }
        for (int m = v + 1; m <= 99; m++) {
            if (alike(m) > 0) {
                return m;
            }
        }
        return NONE;
    }

    int alike(int v) {
        if (out(v, 0, 99)) {
            return OUTSIDE;
        }
        int n = 0;
        for (Person p : w.people) {
            n += p.mark == v ? 1 : 0;
        }
        return n;
    }

    int seats(int kind, int n) {
        if (out(kind, 0, 3)) {
            return UNKNOWN;
        }
        if (out(n, 0, 9)) {
            return OUTSIDE;
        }
        act();
        int old = w.seats[kind];
        w.seats[kind] = n;
        return old;
    }

    int reserve(int kind, int group, int n) {
        if (out(kind, 0, 3) || out(group, 0, 3)) {
            return UNKNOWN;
        }
        if (out(n, 0, 5)) {
            return OUTSIDE;
        }
        act();
        int old = w.reserved[kind][group];
        w.reserved[kind][group] = n;
        return old;
    }

    int heir(int kind, int h) {
        if (out(kind, 1, 3)) {
            return UNKNOWN;
        }
        if (out(h, 0, 3) && h != NONE) {
            return OUTSIDE;
        }
        act();
        int old = w.heirs[kind];
        w.heirs[kind] = h;
        return old;
    }

    int manner(int m) {
        if (out(m, 0, 2)) {
            return OUTSIDE;
        }
        act();
        int old = w.manner;
        w.manner = m;
        return old;
    }

    int order(int first, int second, int third, int fourth) {
        List<Integer> given = List.of(first, second, third, fourth);
        for (int k = 0; k < 4; k++) {
            if (!given.contains(k)) {
                return OUTSIDE;
            }
        }
        act();
        w.order = new int[] {first, second, third, fourth};
        return 1;
    }

    int seat(int p) {
        return person(p) == null ? UNKNOWN : pick(w).seat[p];
    }

    int counted(int p) {
        return person(p) == null ? UNKNOWN : pick(w).group[p];
    }

    int handed(int p) {
        return person(p) == null ? UNKNOWN : pick(w).passed[p] ? 1 : 0;
    }

    int taken(int kind, int k) {
        if (out(kind, 0, 3)) {
            return UNKNOWN;
        }
        if (out(k, 0, 8)) {
            return OUTSIDE;
        }
        List<Person> t = pick(w).taken.get(kind);
        return k < t.size() ? t.get(k).number : NONE;
    }

    int ofKind(int kind, int what) {
        if (out(kind, 0, 3)) {
            return UNKNOWN;
        }
        if (out(what, 0, 5) && out(what, 10, 13) && out(what, 20, 23)) {
            return OUTSIDE;
        }
        Picked c = pick(w);
        List<Person> t = c.taken.get(kind);
        int counted = 0;
        int had = 0;
        for (Person p : w.people) {
            had += c.seat[p.number] == kind ? 1 : 0;
        }
        for (Person p : t) {
            if (what >= 20 ? c.group[p.number] == what - 20 : c.group[p.number] != NONE) {
                counted++;
            }
        }
        if (what >= 20 || what == 2) {
            return counted;
        }
        if (what >= 10) {
            return w.freeReserved(kind)[what - 10];
        }
        if (what == 4) {
            return t.isEmpty() ? NONE : t.get(t.size() - 1).mark;
        }
        return new int[] {w.free(kind), t.size(), 0, w.free(kind) - had, 0, fill(t, w.freeReserved(kind))}[what];
    }

    long ways(int kind) {
        if (out(kind, 0, 3)) {
            return UNKNOWN;
        }
        List<Person> t = pick(w).taken.get(kind);
        int[] left = w.freeReserved(kind);
        return waysOf(t, 0, fill(t, left), left);
    }

    private static int members(World w) {
        Picked c = pick(w);
        int set = 0;
        for (Person p : w.people) {
            set |= c.in(p) ? 1 << p.number : 0;
        }
        return set;
    }

    int by(int m, int what) {
        if (out(m, 0, 2) || out(what, 0, 3)) {
            return OUTSIDE;
        }
        World o = w.copy();
        o.manner = m;
        Picked c = pick(o);
        int number = 0;
        int sum = 0;
        int counted = 0;
        for (Person p : o.people) {
            if (c.in(p)) {
                number++;
                sum += p.mark;
                counted += c.group[p.number] != NONE ? 1 : 0;
            }
        }
        return new int[] {members(o), number, sum, counted}[what];
    }

    int sure(int how) {
        if (out(how, 0, 1)) {
            return OUTSIDE;
        }
        int all = 0xFFFF;
        int some = 0;
        World o = w.copy();
        for (int a = 0; a < 4; a++) {
            for (int b = 0; b < 4; b++) {
                for (int c = 0; c < 4; c++) {
                    if (a != b && a != c && b != c) {
                        o.order = new int[] {a, b, c, 6 - a - b - c};
                        all &= members(o);
                        some |= members(o);
                    }
                }
            }
        }
        return how == 0 ? all : some;
    }

    int threshold(int p) {
        if (person(p) == null) {
            return UNKNOWN;
        }
        if (!person(p).active()) {
            return STATE;
        }
        World o = w.copy();
        for (int v = 0; v <= 99; v++) {
            o.people.get(p).mark = v;
            if (pick(o).seat[p] != NONE) {
                return v;
            }
        }
        return NONE;
    }

    int claim(int p) {
        if (person(p) == null) {
            return UNKNOWN;
        }
        if (!person(p).active()) {
            return STATE;
        }
        World o = w.copy();
        int own = person(p).groups;
        int best = NONE;
        for (int set = 15; set >= 0; set--) {
            o.people.get(p).groups = own | set;
            boolean fewer = best == NONE || Integer.bitCount(set) <= Integer.bitCount(best);
            if ((own & set) == 0 && fewer && pick(o).seat[p] != NONE) {
                best = set;
            }
        }
        return best;
    }

    int successor(int p) {
        if (person(p) == null) {
            return UNKNOWN;
        }
        Picked now = pick(w);
        if (now.seat[p] == NONE) {
            return STATE;
        }
        World o = w.copy();
        o.people.get(p).standing = 4;
        Picked then = pick(o);
        for (Person q : w.ranking()) {
            if (!now.in(q) && then.in(q)) {
                return q.number;
            }
        }
        return NONE;
    }

    int passed(int p) {
        if (person(p) == null) {
            return UNKNOWN;
        }
        Picked now = pick(w);
        if (!person(p).active() || now.in(person(p))) {
            return STATE;
        }
        int set = 0;
        for (Person q : w.people) {
            set |= now.in(q) && person(p).ahead(q) ? 1 << q.number : 0;
        }
        return set;
    }

    int nearest(int k) {
        if (out(k, 0, 15)) {
            return OUTSIDE;
        }
        Picked now = pick(w);
        List<int[]> line = new ArrayList<>();
        for (Person p : w.ranking()) {
            if (p.active() && !now.in(p) && threshold(p.number) != NONE) {
                line.add(new int[] {threshold(p.number) - p.mark, p.number});
            }
        }
        line.sort((a, b) -> Integer.compare(a[0], b[0])); // a stable sort: equal ones stay by rank
        return k < line.size() ? line.get(k)[1] : NONE;
    }

    int envy() {
        Picked now = pick(w);
        int pairs = 0;
        for (int kind = 0; kind < 4; kind++) {
            List<Person> t = now.taken.get(kind);
            int[] left = w.freeReserved(kind);
            for (Person q : t) {
                for (Person p : w.people) {
                    if (p.active() && !now.in(p) && p.candidateOf(kind) && p.ahead(q)) {
                        List<Person> other = new ArrayList<>(t);
                        other.set(t.indexOf(q), p);
                        pairs += fill(other, left) >= fill(t, left) ? 1 : 0;
                    }
                }
            }
        }
        return pairs;
    }

    int round() {
        act();
        for (Person p : w.people) {
            if (p.standing == 1) {
                p.standing = 4;
                p.note = null;
            }
        }
        Picked c = pick(w);
        int n = 0;
        for (Person p : w.people) {
            if (c.in(p)) {
                p.note = new int[] {c.seat[p.number], c.group[p.number], c.passed[p.number] ? 1 : 0};
                if (p.standing == 0) {
                    p.standing = 1;
                    n++;
                }
            } else if (p.standing == 2) {
                p.standing = 0;
                p.note = null;
            }
        }
        w.rounds++;
        return n;
    }

    int answer(int p, int how) {
        if (person(p) == null) {
            return UNKNOWN;
        }
        if (out(how, 0, 2)) {
            return OUTSIDE;
        }
        int old = person(p).standing;
        if (old != 1 && old != 2) {
            return STATE;
        }
        act();
        person(p).standing = new int[] {4, 2, 3}[how];
        if (how == 0) {
            person(p).note = null;
        }
        return old;
    }

    int again(int p) {
        if (person(p) == null) {
            return UNKNOWN;
        }
        if (person(p).standing != 4) {
            return STATE;
        }
        act();
        person(p).standing = 0;
        return 1;
    }

    int note(int p, int what) {
        if (person(p) == null) {
            return UNKNOWN;
        }
        if (out(what, 0, 2)) {
            return OUTSIDE;
        }
        return person(p).note == null ? NONE : person(p).note[what];
    }

    int back(int n) {
        if (out(n, 0, before.size())) {
            return OUTSIDE;
        }
        for (int i = 0; i < n; i++) {
            w = before.remove(before.size() - 1);
        }
        return before.size();
    }

    int many(int what) {
        if (out(what, 0, 7)) {
            return OUTSIDE;
        }
        Picked c = pick(w);
        int[] n = new int[8];
        for (Person p : w.people) {
            n[0]++;
            n[1] += p.active() ? 1 : 0;
            n[2] += c.in(p) ? 1 : 0;
            n[5] += c.group[p.number] != NONE ? 1 : 0;
            n[6] += p.standing == 3 ? 1 : 0;
            n[7] += p.standing == 4 ? 1 : 0;
        }
        n[3] = w.rounds;
        n[4] = before.size();
        return n[what];
    }
}
