/**
 * A model of an admissions office: one ranking of applicants, seats of several kinds, seats reserved
 * for groups, and rounds of offers that can be taken back. What each method does is said in DOC.md.
 *
 * Rows are made once, in the constructor, and used again: no later call makes an object.
 */
public final class KeptSeats {
    public static final int UNKNOWN = -1, OUTSIDE = -2, STATE = -3, FULL = -4, NONE = -9;

    private static final int PEOPLE = 16, KINDS = 4, GROUPS = 4, ACTS = 24;
    private static final int GROUP_SETS = 1 << GROUPS;
    private static final int MOST_MARK = 99, MOST_TICKET = 999, MOST_SEATS = 9, MOST_RESERVED = 5;
    private static final int OPEN_KIND = 0;

    private static final int WAITING = 0, OFFERED = 1, FLOATING = 2, FROZEN = 3, OUT = 4;

    private static final int BY_FILL = 0, BY_GROUP = 1, BY_RANK = 2;

    // Where the parts of an office begin in its row of cells.
    private static final int MARK = 0;
    private static final int TICKET = MARK + PEOPLE;
    private static final int KIND = TICKET + PEOPLE;
    private static final int GROUP_SET = KIND + PEOPLE;
    private static final int STANDING = GROUP_SET + PEOPLE;
    private static final int NOTE_KIND = STANDING + PEOPLE;
    private static final int NOTE_GROUP = NOTE_KIND + PEOPLE;
    private static final int NOTE_HANDED = NOTE_GROUP + PEOPLE;
    private static final int SEATS = NOTE_HANDED + PEOPLE;
    private static final int RESERVED = SEATS + KINDS;
    private static final int HEIR = RESERVED + KINDS * GROUPS;
    private static final int ORDER = HEIR + KINDS;
    private static final int MANNER = ORDER + KINDS;
    private static final int ROUNDS = MANNER + 1;
    private static final int COUNT = ROUNDS + 1;
    private static final int CELLS = COUNT + 1;

    // Greater than every difference of two marks.
    private static final int NO_GAP = 1000;

    private final Office office = new Office();
    private final Diary diary = new Diary();
    private final Choice choice = new Choice();
    // What would be if something were otherwise is tried here, so that the office stays as it is.
    private final Office trial = new Office();
    private final Choice guess = new Choice();
    private final Countings countings = new Countings();
    private final Row gaps = new Row(PEOPLE);
    private boolean stale = true;

    public KeptSeats() {
    }

    // ---- 1 persons, seats

    public int enter(int mark, int ticket, int kind, int groups) {
        if (!isWithin(mark, MOST_MARK) || !isWithin(ticket, MOST_TICKET)) {
            return OUTSIDE;
        }
        if (!isKind(kind) || !isGroupSet(groups)) {
            return OUTSIDE;
        }
        int p = office.people();
        if (p >= PEOPLE) {
            return FULL;
        }
        beginAct();
        office.set(MARK, p, mark);
        office.set(TICKET, p, ticket);
        office.set(KIND, p, kind);
        office.set(GROUP_SET, p, groups);
        office.dismiss(p, WAITING);
        office.set(COUNT, 0, p + 1);
        return p;
    }

    public int mark(int p, int v) {
        return changePerson(MARK, p, v, MOST_MARK);
    }

    public int ticket(int p, int v) {
        return changePerson(TICKET, p, v, MOST_TICKET);
    }

    public int kind(int p, int v) {
        return changePerson(KIND, p, v, KINDS - 1);
    }

    public int groups(int p, int set) {
        return changePerson(GROUP_SET, p, set, GROUP_SETS - 1);
    }

    public int ofPerson(int p, int what) {
        if (!isPerson(p)) {
            return UNKNOWN;
        }
        switch (what) {
            case 0: return office.get(MARK, p);
            case 1: return office.get(TICKET, p);
            case 2: return office.get(KIND, p);
            case 3: return office.get(GROUP_SET, p);
            case 4: return office.get(STANDING, p);
            case 5: return office.countAhead(p);
            default: return OUTSIDE;
        }
    }

    public int ranked(int k) {
        if (!isWithin(k, PEOPLE - 1)) {
            return OUTSIDE;
        }
        return k < office.people() ? presentChoice().personAt(k) : NONE;
    }

    public int above(int v) {
        if (!isWithin(v, MOST_MARK)) {
            return OUTSIDE;
        }
        int least = NONE;
        for (int p = 0; p < office.people(); p++) {
            int mark = office.get(MARK, p);
            if (mark > v && (least == NONE || mark < least)) {
                least = mark;
            }
        }
        return least;
    }

    public int alike(int v) {
        if (!isWithin(v, MOST_MARK)) {
            return OUTSIDE;
        }
        return office.countWith(MARK, v);
    }

    public int seats(int kind, int n) {
        if (!isKind(kind)) {
            return UNKNOWN;
        }
        return isWithin(n, MOST_SEATS) ? change(SEATS, kind, n) : OUTSIDE;
    }

    public int reserve(int kind, int group, int n) {
        if (!isKind(kind) || !isGroup(group)) {
            return UNKNOWN;
        }
        return isWithin(n, MOST_RESERVED) ? change(RESERVED, kind * GROUPS + group, n) : OUTSIDE;
    }

    public int heir(int kind, int h) {
        if (!isKind(kind) || kind == OPEN_KIND) {
            return UNKNOWN;
        }
        return isKind(h) || h == NONE ? change(HEIR, kind, h) : OUTSIDE;
    }

    public int manner(int m) {
        return isWithin(m, BY_RANK) ? change(MANNER, 0, m) : OUTSIDE;
    }

    public int order(int first, int second, int third, int fourth) {
        if (!isOrder(first, second, third, fourth)) {
            return OUTSIDE;
        }
        beginAct();
        office.setOrder(first, second, third, fourth);
        return 1;
    }

    // ---- 2 the choice

    public int seat(int p) {
        return isPerson(p) ? presentChoice().seatOf(p) : UNKNOWN;
    }

    public int counted(int p) {
        return isPerson(p) ? presentChoice().groupOf(p) : UNKNOWN;
    }

    public int handed(int p) {
        return isPerson(p) ? presentChoice().handedTo(p) : UNKNOWN;
    }

    public int taken(int kind, int k) {
        if (!isKind(kind)) {
            return UNKNOWN;
        }
        return isWithin(k, MOST_SEATS - 1) ? presentChoice().takenAt(kind, k) : OUTSIDE;
    }

    public int ofKind(int kind, int what) {
        if (!isKind(kind)) {
            return UNKNOWN;
        }
        Choice now = presentChoice();
        if (isGroup(what - 10)) {
            return now.freeReserved(kind, what - 10);
        }
        if (isGroup(what - 20)) {
            return now.countTo(kind, what - 20);
        }
        switch (what) {
            case 0: return now.freeSeats(kind);
            case 1: return now.countTaken(kind);
            case 2: return now.countCountedIn(kind);
            case 3: return now.freeSeats(kind) - now.countSeated(kind);
            case 4: return worstMark(now, kind);
            case 5: return now.fillOf(office, kind);
            default: return OUTSIDE;
        }
    }

    public long ways(int kind) {
        return isKind(kind) ? countings.count(office, presentChoice(), kind) : UNKNOWN;
    }

    public int by(int m, int what) {
        if (!isWithin(m, BY_RANK) || !isWithin(what, 3)) {
            return OUTSIDE;
        }
        trial.copyFrom(office);
        trial.set(MANNER, 0, m);
        guess.make(trial);
        switch (what) {
            case 0: return guess.members();
            case 1: return Integer.bitCount(guess.members());
            case 2: return sumOfMarks(guess.members());
            default:
                guess.assignGroups(trial);
                return guess.countCounted();
        }
    }

    public int sure(int how) {
        if (!isWithin(how, 1)) {
            return OUTSIDE;
        }
        int always = (1 << PEOPLE) - 1;
        int ever = 0;
        trial.copyFrom(office);
        // Two bits a place: every order is among these codes once.
        for (int code = 0; code < 256; code++) {
            int first = code >> 6, second = code >> 4 & 3, third = code >> 2 & 3, fourth = code & 3;
            if (isOrder(first, second, third, fourth)) {
                trial.setOrder(first, second, third, fourth);
                guess.make(trial);
                always &= guess.members();
                ever |= guess.members();
            }
        }
        return how == 0 ? always : ever;
    }

    // ---- 3 if it were otherwise

    public int threshold(int p) {
        if (!isPerson(p)) {
            return UNKNOWN;
        }
        return office.isActive(p) ? leastMark(p) : STATE;
    }

    public int claim(int p) {
        if (!isPerson(p)) {
            return UNKNOWN;
        }
        return office.isActive(p) ? leastGroups(p) : STATE;
    }

    public int successor(int p) {
        if (!isPerson(p)) {
            return UNKNOWN;
        }
        Choice now = presentChoice();
        if (!now.has(p)) {
            return STATE;
        }
        trial.copyFrom(office);
        trial.set(STANDING, p, OUT);
        guess.make(trial);
        for (int place = 0; place < office.people(); place++) {
            int q = now.personAt(place);
            if (!now.has(q) && guess.has(q)) {
                return q;
            }
        }
        return NONE;
    }

    public int passed(int p) {
        if (!isPerson(p)) {
            return UNKNOWN;
        }
        Choice now = presentChoice();
        if (!office.isActive(p) || now.has(p)) {
            return STATE;
        }
        int behind = 0;
        for (int q = 0; q < office.people(); q++) {
            if (now.has(q) && office.isAhead(p, q)) {
                behind |= 1 << q;
            }
        }
        return behind;
    }

    public int nearest(int k) {
        if (!isWithin(k, PEOPLE - 1)) {
            return OUTSIDE;
        }
        Choice now = presentChoice();
        gaps.fill(NO_GAP);
        for (int place = 0; place < office.people(); place++) {
            int p = now.personAt(place);
            if (office.isActive(p) && !now.has(p)) {
                int least = leastMark(p);
                gaps.set(place, least == NONE ? NO_GAP : least - office.get(MARK, p));
            }
        }
        int place = placeOfGap(k);
        return place == NONE ? NONE : now.personAt(place);
    }

    public int envy() {
        Choice now = presentChoice();
        int pairs = 0;
        for (int kind = 0; kind < KINDS; kind++) {
            pairs += now.countEnvy(office, kind);
        }
        return pairs;
    }

    // ---- 4 rounds

    public int round() {
        beginAct();
        for (int p = 0; p < office.people(); p++) {
            if (office.get(STANDING, p) == OFFERED) {
                office.dismiss(p, OUT);
            }
        }
        choice.make(office);
        choice.assignGroups(office);
        int offers = 0;
        for (int p = 0; p < office.people(); p++) {
            offers += settle(p);
        }
        office.set(ROUNDS, 0, office.get(ROUNDS, 0) + 1);
        return offers;
    }

    public int answer(int p, int how) {
        if (!isPerson(p)) {
            return UNKNOWN;
        }
        if (!isWithin(how, 2)) {
            return OUTSIDE;
        }
        int before = office.get(STANDING, p);
        if (before != OFFERED && before != FLOATING) {
            return STATE;
        }
        beginAct();
        if (how == 0) {
            office.dismiss(p, OUT);
        } else {
            office.set(STANDING, p, how == 1 ? FLOATING : FROZEN);
        }
        return before;
    }

    public int again(int p) {
        if (!isPerson(p)) {
            return UNKNOWN;
        }
        if (office.get(STANDING, p) != OUT) {
            return STATE;
        }
        beginAct();
        office.dismiss(p, WAITING);
        return 1;
    }

    public int note(int p, int what) {
        if (!isPerson(p)) {
            return UNKNOWN;
        }
        // Without a note each of the three cells holds NONE.
        switch (what) {
            case 0: return office.get(NOTE_KIND, p);
            case 1: return office.get(NOTE_GROUP, p);
            case 2: return office.get(NOTE_HANDED, p);
            default: return OUTSIDE;
        }
    }

    // ---- 5 what was done

    public int back(int n) {
        if (!isWithin(n, diary.size())) {
            return OUTSIDE;
        }
        for (int i = 0; i < n; i++) {
            diary.restore(office);
        }
        stale = true;
        return diary.size();
    }

    public int many(int what) {
        switch (what) {
            case 0: return office.people();
            case 1: return office.countActive();
            case 2: return Integer.bitCount(presentChoice().members());
            case 3: return office.get(ROUNDS, 0);
            case 4: return diary.size();
            case 5: return presentChoice().countCounted();
            case 6: return office.countWith(STANDING, FROZEN);
            case 7: return office.countWith(STANDING, OUT);
            default: return OUTSIDE;
        }
    }

    // ---- what the methods share

    private static boolean isWithin(int v, int most) {
        return v >= 0 && v <= most;
    }

    private static boolean isKind(int kind) {
        return isWithin(kind, KINDS - 1);
    }

    private static boolean isGroup(int group) {
        return isWithin(group, GROUPS - 1);
    }

    private static boolean isGroupSet(int set) {
        return isWithin(set, GROUP_SETS - 1);
    }

    private static boolean isOrder(int first, int second, int third, int fourth) {
        if (!isKind(first) || !isKind(second) || !isKind(third) || !isKind(fourth)) {
            return false;
        }
        int seen = 1 << first | 1 << second | 1 << third | 1 << fourth;
        return seen == (1 << KINDS) - 1;
    }

    private boolean isPerson(int p) {
        return isWithin(p, office.people() - 1);
    }

    /** To be called before an act changes anything, and only by an act that returns no error. */
    private void beginAct() {
        diary.keep(office);
        stale = true;
    }

    private int change(int part, int i, int v) {
        beginAct();
        int before = office.get(part, i);
        office.set(part, i, v);
        return before;
    }

    private int changePerson(int part, int p, int v, int most) {
        if (!isPerson(p)) {
            return UNKNOWN;
        }
        return isWithin(v, most) ? change(part, p, v) : OUTSIDE;
    }

    private Choice presentChoice() {
        if (stale) {
            choice.make(office);
            choice.assignGroups(office);
            stale = false;
        }
        return choice;
    }

    private int worstMark(Choice now, int kind) {
        int worst = now.takenAt(kind, now.countTaken(kind) - 1);
        return worst == NONE ? NONE : office.get(MARK, worst);
    }

    private int sumOfMarks(int members) {
        int sum = 0;
        for (int p = 0; p < office.people(); p++) {
            if ((members >> p & 1) == 1) {
                sum += office.get(MARK, p);
            }
        }
        return sum;
    }

    private int leastMark(int p) {
        trial.copyFrom(office);
        int tried = NONE;
        for (int v = 0; v <= MOST_MARK; v++) {
            trial.set(MARK, p, v);
            // A mark counts by the place only that it gives, so each place is tried once.
            int place = trial.countAhead(p);
            if (place != tried) {
                tried = place;
                guess.make(trial);
                if (guess.has(p)) {
                    return v;
                }
            }
        }
        return NONE;
    }

    private int leastGroups(int p) {
        trial.copyFrom(office);
        int own = office.get(GROUP_SET, p);
        for (int size = 0; size <= GROUPS; size++) {
            for (int set = 0; set < GROUP_SETS; set++) {
                if (Integer.bitCount(set) == size && (set & own) == 0) {
                    trial.set(GROUP_SET, p, own | set);
                    guess.make(trial);
                    if (guess.has(p)) {
                        return set;
                    }
                }
            }
        }
        return NONE;
    }

    /** The place in the ranking of the one who has k others before it by gap, and then by rank. */
    private int placeOfGap(int k) {
        for (int place = 0; place < PEOPLE; place++) {
            int gap = gaps.get(place);
            int before = 0;
            for (int other = 0; other < PEOPLE; other++) {
                int otherGap = gaps.get(other);
                if (otherGap < gap || otherGap == gap && other < place) {
                    before++;
                }
            }
            if (gap != NO_GAP && before == k) {
                return place;
            }
        }
        return NONE;
    }

    /** What a round does to one applicant once its choice is made; returns 1 for a new offer, else 0. */
    private int settle(int p) {
        int before = office.get(STANDING, p);
        if (!choice.has(p)) {
            if (before == FLOATING) {
                office.dismiss(p, WAITING);
            }
            return 0;
        }
        office.set(NOTE_KIND, p, choice.seatOf(p));
        office.set(NOTE_GROUP, p, choice.groupOf(p));
        office.set(NOTE_HANDED, p, choice.handedTo(p));
        if (before != WAITING) {
            return 0;
        }
        office.set(STANDING, p, OFFERED);
        return 1;
    }

    /** A row of numbers that looks at each index before it uses it. */
    private static final class Row {
        private final int[] cells;

        Row(int length) {
            cells = new int[Math.max(0, length)];
        }

        int get(int i) {
            return i >= 0 && i < cells.length ? cells[i] : 0;
        }

        void set(int i, int v) {
            if (i >= 0 && i < cells.length) {
                cells[i] = v;
            }
        }

        void add(int i, int v) {
            if (i >= 0 && i < cells.length) {
                cells[i] += v;
            }
        }

        void fill(int v) {
            for (int i = 0; i < cells.length; i++) {
                cells[i] = v;
            }
        }
    }

    /** All that acts change, in one row of cells, so that it is kept and brought back by one copy. */
    private static final class Office {
        private final int[] cells = new int[CELLS];

        Office() {
            for (int i = 0; i < KINDS; i++) {
                set(HEIR, i, NONE);
                set(ORDER, i, i);
            }
        }

        int get(int part, int i) {
            int cell = part + i;
            return cell >= 0 && cell < cells.length ? cells[cell] : 0;
        }

        void set(int part, int i, int v) {
            int cell = part + i;
            if (cell >= 0 && cell < cells.length) {
                cells[cell] = v;
            }
        }

        void copyFrom(Office other) {
            System.arraycopy(other.cells, 0, cells, 0, CELLS);
        }

        void setOrder(int first, int second, int third, int fourth) {
            set(ORDER, 0, first);
            set(ORDER, 1, second);
            set(ORDER, 2, third);
            set(ORDER, 3, fourth);
        }

        /** Gives an applicant a standing in which there is no note. */
        void dismiss(int p, int standing) {
            set(STANDING, p, standing);
            set(NOTE_KIND, p, NONE);
            set(NOTE_GROUP, p, NONE);
            set(NOTE_HANDED, p, NONE);
        }

        int people() {
            return get(COUNT, 0);
        }

        boolean isActive(int p) {
            return get(STANDING, p) <= FLOATING;
        }

        /** Smaller for the one who is ranked ahead, different for all; its lowest four bits are p. */
        int rankKey(int p) {
            int lack = MOST_MARK - get(MARK, p);
            return (lack * (MOST_TICKET + 1) + get(TICKET, p)) * PEOPLE + p;
        }

        boolean isAhead(int p, int q) {
            return rankKey(p) < rankKey(q);
        }

        int countAhead(int p) {
            int key = rankKey(p);
            int ahead = 0;
            for (int q = 0; q < people(); q++) {
                if (rankKey(q) < key) {
                    ahead++;
                }
            }
            return ahead;
        }

        int countWith(int part, int v) {
            int found = 0;
            for (int p = 0; p < people(); p++) {
                if (get(part, p) == v) {
                    found++;
                }
            }
            return found;
        }

        int countActive() {
            int active = 0;
            for (int p = 0; p < people(); p++) {
                if (isActive(p)) {
                    active++;
                }
            }
            return active;
        }
    }

    /** The office as it was before each of the latest acts, in a ring. */
    private static final class Diary {
        private final Office[] pages = new Office[ACTS];
        private int next = 0;
        private int kept = 0;

        Diary() {
            for (int i = 0; i < pages.length; i++) {
                pages[i] = new Office();
            }
        }

        int size() {
            return kept;
        }

        void keep(Office office) {
            Office page = pageAt(next);
            if (page != null) {
                page.copyFrom(office);
                next = next == ACTS - 1 ? 0 : next + 1;
                kept = Math.min(kept + 1, ACTS);
            }
        }

        void restore(Office office) {
            int latest = next == 0 ? ACTS - 1 : next - 1;
            Office page = pageAt(latest);
            if (kept > 0 && page != null) {
                office.copyFrom(page);
                next = latest;
                kept--;
            }
        }

        private Office pageAt(int i) {
            return i >= 0 && i < pages.length ? pages[i] : null;
        }
    }

    /**
     * How many of a set of applicants can be counted in a kind. For each set of groups, at most
     * its reserved seats and the applicants who have a group outside it can be counted together; the least
     * of these bounds can always be reached (the least cut is the greatest flow).
     */
    private static final class Tally {
        private final int[] bounds = new int[GROUP_SETS];
        private final Row left = new Row(GROUPS);

        void begin(Choice choice, int kind) {
            for (int set = 0; set < bounds.length; set++) {
                bounds[set] = 0;
            }
            left.fill(0);
            for (int group = 0; group < GROUPS; group++) {
                changeLeft(group, choice.freeReserved(kind, group));
            }
        }

        /** Puts an applicant with these groups into the set (by 1) or takes one out of it (by -1). */
        void add(int groups, int by) {
            for (int set = 0; set < bounds.length; set++) {
                if ((groups & ~set) != 0) {
                    bounds[set] += by;
                }
            }
        }

        int fill() {
            int least = PEOPLE;
            for (int set = 0; set < bounds.length; set++) {
                least = Math.min(least, bounds[set]);
            }
            return least;
        }

        /**
         * Takes an applicant out of the set, and counts it to the smallest group with which as many as
         * before can be counted in all; returns this group, or NONE.
         */
        int assign(int groups) {
            int others = fill() - 1;
            add(groups, -1);
            for (int group = 0; group < GROUPS; group++) {
                if ((groups >> group & 1) == 1 && left.get(group) > 0) {
                    changeLeft(group, -1);
                    if (fill() == others) {
                        return group;
                    }
                    changeLeft(group, 1);
                }
            }
            return NONE;
        }

        private void changeLeft(int group, int by) {
            left.add(group, by);
            for (int set = 0; set < bounds.length; set++) {
                if ((set >> group & 1) == 1) {
                    bounds[set] += by;
                }
            }
        }
    }

    /** Counts in how many ways as many as possible of those taken in a kind can be counted. */
    private static final class Countings {
        // How many can be counted to one group is a digit in this base, so a cell stands for four digits.
        private static final int BASE = MOST_RESERVED + 1;
        private static final int SIZE = BASE * BASE * BASE * BASE;
        private final Row table = new Row(SIZE);

        long count(Office office, Choice choice, int kind) {
            table.fill(0);
            table.set(0, 1);
            for (int p = 0; p < office.people(); p++) {
                if (choice.isTaken(p, kind)) {
                    include(office.get(GROUP_SET, p), choice, kind);
                }
            }
            int fill = choice.fillOf(office, kind);
            long ways = 0;
            for (int cell = 0; cell < SIZE; cell++) {
                if (sumOfDigits(cell) == fill) {
                    ways += table.get(cell);
                }
            }
            return ways;
        }

        /** Downwards, since the cells from which a cell grows are smaller and must be the old ones. */
        private void include(int groups, Choice choice, int kind) {
            for (int cell = SIZE - 1; cell > 0; cell--) {
                int rest = cell;
                int step = 1;
                for (int group = 0; group < GROUPS; group++) {
                    int digit = rest % BASE;
                    if ((groups >> group & 1) == 1 && digit > 0 && digit <= choice.freeReserved(kind, group)) {
                        table.add(cell, table.get(cell - step));
                    }
                    rest /= BASE;
                    step *= BASE;
                }
            }
        }

        private static int sumOfDigits(int cell) {
            int rest = cell;
            int sum = 0;
            for (int group = 0; group < GROUPS; group++) {
                sum += rest % BASE;
                rest /= BASE;
            }
            return sum;
        }
    }

    /** Who has which seat in an office, by its order and its manner. */
    private static final class Choice {
        private final Row rankKeys = new Row(PEOPLE);
        private final Row freeSeats = new Row(KINDS);
        private final Row freeReserved = new Row(KINDS * GROUPS);
        // For each kind the set of its active candidates.
        private final Row candidates = new Row(KINDS);
        private final Row seatKinds = new Row(PEOPLE);
        private final Row groups = new Row(PEOPLE);
        private final Row handed = new Row(PEOPLE);
        // The candidates of the kind in which applicants are being taken, by rank.
        private final Row line = new Row(PEOPLE);
        private final Tally tally = new Tally();
        private int lineLength = 0;
        private int people = 0;
        private int members = 0;

        /** By rules 0 and 2 the groups are left open: most who ask want to know who is in it only. */
        void make(Office office) {
            people = office.people();
            rankAll(office);
            findFree(office);
            findCandidates(office);
            members = 0;
            seatKinds.fill(NONE);
            groups.fill(NONE);
            handed.fill(0);
            for (int i = 0; i < KINDS; i++) {
                takeIn(office, office.get(ORDER, i));
            }
            for (int i = 0; i < KINDS; i++) {
                passOn(office, office.get(ORDER, i));
            }
        }

        /** Counts those who are taken to groups; by rule 1 that is done as they are taken. */
        void assignGroups(Office office) {
            if (office.get(MANNER, 0) == BY_GROUP) {
                return;
            }
            for (int kind = 0; kind < KINDS; kind++) {
                tallyTaken(office, kind);
                for (int place = 0; place < people; place++) {
                    int p = personAt(place);
                    if (isTaken(p, kind)) {
                        groups.set(p, tally.assign(office.get(GROUP_SET, p)));
                    }
                }
            }
        }

        int personAt(int place) {
            return rankKeys.get(place) & (PEOPLE - 1);
        }

        int freeSeats(int kind) {
            return freeSeats.get(kind);
        }

        int freeReserved(int kind, int group) {
            return freeReserved.get(kind * GROUPS + group);
        }

        int seatOf(int p) {
            return seatKinds.get(p);
        }

        int groupOf(int p) {
            return groups.get(p);
        }

        int handedTo(int p) {
            return handed.get(p);
        }

        boolean has(int p) {
            return (members >> p & 1) == 1;
        }

        boolean isTaken(int p, int kind) {
            return seatKinds.get(p) == kind && handed.get(p) == 0;
        }

        int members() {
            return members;
        }

        int takenAt(int kind, int k) {
            int before = 0;
            for (int place = 0; place < people; place++) {
                int p = personAt(place);
                if (isTaken(p, kind)) {
                    if (before == k) {
                        return p;
                    }
                    before++;
                }
            }
            return NONE;
        }

        int countTaken(int kind) {
            int found = 0;
            for (int p = 0; p < people; p++) {
                if (isTaken(p, kind)) {
                    found++;
                }
            }
            return found;
        }

        /** How many have a seat of this kind, passed on or not. */
        int countSeated(int kind) {
            int found = 0;
            for (int p = 0; p < people; p++) {
                if (seatOf(p) == kind) {
                    found++;
                }
            }
            return found;
        }

        int countTo(int kind, int group) {
            int found = 0;
            for (int p = 0; p < people; p++) {
                if (isTaken(p, kind) && groupOf(p) == group) {
                    found++;
                }
            }
            return found;
        }

        int countCountedIn(int kind) {
            int found = 0;
            for (int group = 0; group < GROUPS; group++) {
                found += countTo(kind, group);
            }
            return found;
        }

        int countCounted() {
            int found = 0;
            for (int kind = 0; kind < KINDS; kind++) {
                found += countCountedIn(kind);
            }
            return found;
        }

        int fillOf(Office office, int kind) {
            tallyTaken(office, kind);
            return tally.fill();
        }

        int countEnvy(Office office, int kind) {
            tallyTaken(office, kind);
            int goal = tally.fill();
            int pairs = 0;
            for (int q = 0; q < people; q++) {
                if (isTaken(q, kind)) {
                    tally.add(office.get(GROUP_SET, q), -1);
                    pairs += countEnvious(office, kind, q, goal);
                    tally.add(office.get(GROUP_SET, q), 1);
                }
            }
            return pairs;
        }

        /** The tally has to be that of those taken in the kind without q. */
        private int countEnvious(Office office, int kind, int q, int goal) {
            int hopeful = withoutSeat(kind);
            int envious = 0;
            for (int p = 0; p < people; p++) {
                if ((hopeful >> p & 1) == 1 && office.isAhead(p, q)) {
                    tally.add(office.get(GROUP_SET, p), 1);
                    if (tally.fill() >= goal) {
                        envious++;
                    }
                    tally.add(office.get(GROUP_SET, p), -1);
                }
            }
            return envious;
        }

        private void tallyTaken(Office office, int kind) {
            tally.begin(this, kind);
            for (int p = 0; p < people; p++) {
                if (isTaken(p, kind)) {
                    tally.add(office.get(GROUP_SET, p), 1);
                }
            }
        }

        private void rankAll(Office office) {
            for (int p = 0; p < people; p++) {
                int key = office.rankKey(p);
                int place = p;
                while (place > 0 && rankKeys.get(place - 1) > key) {
                    rankKeys.set(place, rankKeys.get(place - 1));
                    place--;
                }
                rankKeys.set(place, key);
            }
        }

        private void findFree(Office office) {
            for (int i = 0; i < KINDS; i++) {
                freeSeats.set(i, office.get(SEATS, i));
            }
            for (int i = 0; i < KINDS * GROUPS; i++) {
                freeReserved.set(i, office.get(RESERVED, i));
            }
            for (int p = 0; p < people; p++) {
                if (office.get(STANDING, p) == FROZEN) {
                    occupy(office.get(NOTE_KIND, p), office.get(NOTE_GROUP, p));
                }
            }
        }

        private void occupy(int kind, int group) {
            freeSeats.set(kind, Math.max(0, freeSeats.get(kind) - 1));
            if (isGroup(group)) {
                int i = kind * GROUPS + group;
                freeReserved.set(i, Math.max(0, freeReserved.get(i) - 1));
            }
        }

        private void findCandidates(Office office) {
            candidates.fill(0);
            int active = 0;
            for (int p = 0; p < people; p++) {
                if (office.isActive(p)) {
                    int kind = office.get(KIND, p);
                    candidates.set(kind, candidates.get(kind) | 1 << p);
                    active |= 1 << p;
                }
            }
            candidates.set(OPEN_KIND, active);
        }

        /** The set of the active candidates of a kind who have no seat, or no seat as yet. */
        private int withoutSeat(int kind) {
            return candidates.get(kind) & ~members;
        }

        private void takeIn(Office office, int kind) {
            lineUp(kind);
            int room = Math.min(freeSeats(kind), lineLength);
            int manner = office.get(MANNER, 0);
            if (manner == BY_FILL) {
                takeFullest(office, kind, room);
            } else if (manner == BY_GROUP) {
                takeByGroups(office, kind, room);
            } else {
                takeBest(kind, room);
            }
        }

        private void lineUp(int kind) {
            int hopeful = withoutSeat(kind);
            lineLength = 0;
            for (int place = 0; place < people; place++) {
                int p = personAt(place);
                if ((hopeful >> p & 1) == 1) {
                    line.set(lineLength, p);
                    lineLength++;
                }
            }
        }

        private void take(int p, int kind, int group) {
            members |= 1 << p;
            seatKinds.set(p, kind);
            groups.set(p, group);
        }

        /**
         * Going by rank, each one is taken with whom the greatest fill can still be reached: every seat
         * after it can raise the fill by one until the fill of the whole line is reached.
         */
        private void takeFullest(Office office, int kind, int room) {
            tally.begin(this, kind);
            for (int i = 0; i < lineLength; i++) {
                tally.add(office.get(GROUP_SET, line.get(i)), 1);
            }
            int goal = Math.min(room, tally.fill());
            tally.begin(this, kind);
            int left = room;
            for (int i = 0; i < lineLength && left > 0; i++) {
                int p = line.get(i);
                tally.add(office.get(GROUP_SET, p), 1);
                if (tally.fill() + left - 1 >= goal) {
                    take(p, kind, NONE);
                    left--;
                } else {
                    tally.add(office.get(GROUP_SET, p), -1);
                }
            }
        }

        private void takeByGroups(Office office, int kind, int room) {
            int left = room;
            for (int group = 0; group < GROUPS; group++) {
                int quota = Math.min(left, freeReserved(kind, group));
                left -= takeForGroup(office, kind, group, quota);
            }
            takeBest(kind, left);
        }

        private int takeForGroup(Office office, int kind, int group, int quota) {
            int found = 0;
            for (int i = 0; i < lineLength && found < quota; i++) {
                int p = line.get(i);
                if (!has(p) && (office.get(GROUP_SET, p) >> group & 1) == 1) {
                    take(p, kind, group);
                    found++;
                }
            }
            return found;
        }

        private void takeBest(int kind, int room) {
            int left = room;
            for (int i = 0; i < lineLength && left > 0; i++) {
                int p = line.get(i);
                if (!has(p)) {
                    take(p, kind, NONE);
                    left--;
                }
            }
        }

        private void passOn(Office office, int kind) {
            if (kind == OPEN_KIND) {
                return;
            }
            int vacant = freeSeats(kind) - countTaken(kind);
            for (int i = 0; i < vacant; i++) {
                int p = findReceiver(office, kind);
                if (p == NONE) {
                    return;
                }
                take(p, kind, NONE);
                handed.set(p, 1);
            }
        }

        private int findReceiver(Office office, int kind) {
            int reached = 1 << kind;
            int next = office.get(HEIR, kind);
            for (int step = 0; step < KINDS; step++) {
                if (!isKind(next) || (reached >> next & 1) == 1) {
                    return NONE;
                }
                int p = bestWithoutSeat(next);
                if (p != NONE) {
                    return p;
                }
                reached |= 1 << next;
                next = office.get(HEIR, next);
            }
            return NONE;
        }

        private int bestWithoutSeat(int kind) {
            int hopeful = withoutSeat(kind);
            for (int place = 0; place < people; place++) {
                int p = personAt(place);
                if ((hopeful >> p & 1) == 1) {
                    return p;
                }
            }
            return NONE;
        }
    }
}
