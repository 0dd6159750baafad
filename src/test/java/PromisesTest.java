/** Each promise of the document by itself: ordinary inputs, the edges it names, and wrong inputs with the error due. */
public final class PromisesTest {
    private static final int UNKNOWN = -1, OUTSIDE = -2, STATE = -3, FULL = -4, NONE = -9;
    private static final int LOWEST = Integer.MIN_VALUE, HIGHEST = Integer.MAX_VALUE;
    private static final Check C = new Check("PromisesTest");

    public static void main(String[] args) {
        newObject();
        enter();
        mark();
        ticket();
        kind();
        groups();
        ofPerson();
        ranked();
        above();
        alike();
        seats();
        reserve();
        heir();
        manner();
        order();
        seat();
        counted();
        countedToNoneBeforeOthers();
        handed();
        handedChains();
        taken();
        ofKind();
        ofKindFreeSeatsNobodyHas();
        ways();
        by();
        sure();
        threshold();
        claim();
        successor();
        passed();
        nearest();
        envy();
        round();
        answer();
        again();
        note();
        back();
        backOverManyActs();
        many();
        errorsAreNoActs();
        C.end();
    }

    private static void due(String call, long got, long want) {
        C.due(call, got, want);
    }

    /** An office with one applicant a mark, tickets 0, kind 0, no groups. */
    private static KeptSeats withMarks(int... marks) {
        KeptSeats x = new KeptSeats();
        for (int m : marks) {
            x.enter(m, 0, 0, 0);
        }
        return x;
    }

    private static void newObject() {
        KeptSeats x = new KeptSeats();
        for (int what = 0; what < 8; what++) {
            due("1 new: many " + what, x.many(what), 0);
        }
        for (int kind = 0; kind < 4; kind++) {
            due("1 new: free seats", x.ofKind(kind, 0), 0);
            for (int g = 0; g < 4; g++) {
                due("1 new: free reserved", x.ofKind(kind, 10 + g), 0);
                due("1 new: previous reserved", x.reserve(kind, g, 0), 0);
            }
            due("1 new: previous seats", x.seats(kind, 0), 0);
        }
        for (int kind = 1; kind < 4; kind++) {
            due("1 new: previous heir", x.heir(kind, NONE), NONE);
        }
        due("1 new: previous manner", x.manner(0), 0);
        due("1 new: first applicant", x.enter(1, 1, 1, 1), 0);
        KeptSeats y = new KeptSeats();
        due("1 new: nothing of another object", y.many(0), 0);
        due("1 new: nothing of another object", y.many(4), 0);
    }

    private static void enter() {
        KeptSeats x = new KeptSeats();
        due("2 enter smallest", x.enter(0, 0, 0, 0), 0);
        due("2 enter greatest", x.enter(99, 999, 3, 15), 1);
        due("2 enter is waiting", x.ofPerson(1, 4), 0);
        due("2 enter mark", x.ofPerson(1, 0), 99);
        due("2 enter ticket", x.ofPerson(1, 1), 999);
        due("2 enter kind", x.ofPerson(1, 2), 3);
        due("2 enter groups", x.ofPerson(1, 3), 15);
        due("2 enter no note", x.note(1, 0), NONE);
        due("2 enter mark -1", x.enter(-1, 0, 0, 0), OUTSIDE);
        due("2 enter mark 100", x.enter(100, 0, 0, 0), OUTSIDE);
        due("2 enter ticket -1", x.enter(0, -1, 0, 0), OUTSIDE);
        due("2 enter ticket 1000", x.enter(0, 1000, 0, 0), OUTSIDE);
        due("2 enter kind -1", x.enter(0, 0, -1, 0), OUTSIDE);
        due("2 enter kind 4", x.enter(0, 0, 4, 0), OUTSIDE);
        due("2 enter groups -1", x.enter(0, 0, 0, -1), OUTSIDE);
        due("2 enter groups 16", x.enter(0, 0, 0, 16), OUTSIDE);
        due("2 enter far out", x.enter(LOWEST, HIGHEST, LOWEST, HIGHEST), OUTSIDE);
        for (int p = 2; p < 16; p++) {
            due("2 enter up to 16", x.enter(5, 5, 1, 2), p);
        }
        due("2 enter a 17th", x.enter(5, 5, 1, 2), FULL);
        due("2 enter: OUTSIDE before FULL", x.enter(5, 5, 4, 2), OUTSIDE);
        due("2 enter is an act", x.many(4), 16);
        due("2 enter taken back", x.back(1), 15);
        due("2 enter in its place", x.enter(6, 6, 0, 0), 15);
        due("2 enter in its place", x.ofPerson(15, 0), 6);
    }

    private static void mark() {
        KeptSeats x = withMarks(50, 40);
        due("3 mark", x.mark(1, 99), 40);
        due("3 mark", x.mark(1, 0), 99);
        due("3 mark is set", x.ofPerson(1, 0), 0);
        due("3 mark of another", x.ofPerson(0, 0), 50);
        due("3 mark is an act", x.many(4), 4);
        due("3 mark the same", x.mark(0, 50), 50);
        due("3 mark the same is an act", x.many(4), 5);
        due("3 mark unknown", x.mark(2, 5), UNKNOWN);
        due("3 mark unknown", x.mark(-1, 5), UNKNOWN);
        due("3 mark: UNKNOWN before OUTSIDE", x.mark(2, 100), UNKNOWN);
        due("3 mark 100", x.mark(0, 100), OUTSIDE);
        due("3 mark -1", x.mark(0, -1), OUTSIDE);
        due("3 mark far out", x.mark(LOWEST, HIGHEST), UNKNOWN);
    }

    private static void ticket() {
        KeptSeats x = withMarks(50, 50);
        due("4 ticket", x.ticket(0, 999), 0);
        due("4 ticket is set", x.ofPerson(0, 1), 999);
        due("4 ticket ranks", x.ranked(0), 1);
        due("4 ticket", x.ticket(0, 0), 999);
        due("4 ticket ranks", x.ranked(0), 0);
        due("4 ticket is an act", x.many(4), 4);
        due("4 ticket unknown", x.ticket(2, 0), UNKNOWN);
        due("4 ticket: UNKNOWN before OUTSIDE", x.ticket(-1, -1), UNKNOWN);
        due("4 ticket -1", x.ticket(0, -1), OUTSIDE);
        due("4 ticket 1000", x.ticket(0, 1000), OUTSIDE);
    }

    private static void kind() {
        KeptSeats x = withMarks(50);
        x.seats(2, 1);
        due("5 kind: no candidate", x.seat(0), NONE);
        due("5 kind", x.kind(0, 2), 0);
        due("5 kind: a candidate", x.seat(0), 2);
        due("5 kind", x.kind(0, 3), 2);
        due("5 kind: no candidate", x.seat(0), NONE);
        due("5 kind is set", x.ofPerson(0, 2), 3);
        due("5 kind is an act", x.many(4), 4);
        due("5 kind unknown", x.kind(1, 0), UNKNOWN);
        due("5 kind: UNKNOWN before OUTSIDE", x.kind(1, 4), UNKNOWN);
        due("5 kind 4", x.kind(0, 4), OUTSIDE);
        due("5 kind -1", x.kind(0, -1), OUTSIDE);
    }

    private static void groups() {
        KeptSeats x = withMarks(50);
        due("6 groups", x.groups(0, 15), 0);
        due("6 groups", x.groups(0, 6), 15);
        due("6 groups is set", x.ofPerson(0, 3), 6);
        due("6 groups is an act", x.many(4), 3);
        due("6 groups unknown", x.groups(1, 0), UNKNOWN);
        due("6 groups: UNKNOWN before OUTSIDE", x.groups(1, 16), UNKNOWN);
        due("6 groups 16", x.groups(0, 16), OUTSIDE);
        due("6 groups -1", x.groups(0, -1), OUTSIDE);
    }

    private static void ofPerson() {
        KeptSeats x = new KeptSeats();
        x.enter(70, 5, 2, 9);
        x.enter(70, 4, 0, 0);
        x.enter(70, 5, 0, 0);
        x.enter(71, 999, 0, 0);
        due("7 ofPerson mark", x.ofPerson(0, 0), 70);
        due("7 ofPerson ticket", x.ofPerson(0, 1), 5);
        due("7 ofPerson kind", x.ofPerson(0, 2), 2);
        due("7 ofPerson groups", x.ofPerson(0, 3), 9);
        due("7 ofPerson standing", x.ofPerson(0, 4), 0);
        due("7 ofPerson ahead: mark", x.ofPerson(3, 5), 0);
        due("7 ofPerson ahead: ticket", x.ofPerson(1, 5), 1);
        due("7 ofPerson ahead: number", x.ofPerson(0, 5), 2);
        due("7 ofPerson ahead: number", x.ofPerson(2, 5), 3);
        KeptSeats y = new KeptSeats();
        y.enter(49, 0, 0, 0);
        y.enter(50, 999, 0, 0);
        y.enter(50, 998, 0, 0);
        due("7 ofPerson ahead: a mark more goes before any ticket", y.ofPerson(0, 5), 2);
        due("7 ofPerson ahead: a mark more goes before any ticket", y.ofPerson(1, 5), 1);
        due("7 ofPerson ahead: a ticket less goes before any number", y.ofPerson(2, 5), 0);
        due("7 ofPerson unknown", x.ofPerson(4, 0), UNKNOWN);
        due("7 ofPerson: UNKNOWN before OUTSIDE", x.ofPerson(-1, 6), UNKNOWN);
        due("7 ofPerson 6", x.ofPerson(0, 6), OUTSIDE);
        due("7 ofPerson -1", x.ofPerson(0, -1), OUTSIDE);
        due("7 ofPerson is no act", x.many(4), 4);
        x.seats(0, 1);
        x.round();
        x.answer(3, 0);
        due("7 ofPerson standing out", x.ofPerson(3, 4), 4);
        due("7 ofPerson ahead, of any standing", x.ofPerson(1, 5), 1);
    }

    private static void ranked() {
        KeptSeats x = withMarks(10, 30, 20, 30);
        due("8 ranked", x.ranked(0), 1);
        due("8 ranked", x.ranked(1), 3);
        due("8 ranked", x.ranked(2), 2);
        due("8 ranked", x.ranked(3), 0);
        due("8 ranked no place", x.ranked(4), NONE);
        due("8 ranked no place", x.ranked(15), NONE);
        due("8 ranked 16", x.ranked(16), OUTSIDE);
        due("8 ranked -1", x.ranked(-1), OUTSIDE);
        x.ticket(1, 1);
        due("8 ranked by ticket", x.ranked(0), 3);
        x.seats(0, 1);
        x.round();
        x.answer(3, 2);
        due("8 ranked, of any standing", x.ranked(0), 3);
        KeptSeats y = new KeptSeats();
        for (int p = 0; p < 16; p++) {
            y.enter(p, 0, 0, 0);
        }
        for (int k = 0; k < 16; k++) {
            due("8 ranked of 16", y.ranked(k), 15 - k);
        }
    }

    private static void above() {
        KeptSeats x = withMarks(10, 99, 30, 10, 0);
        due("9 above 0", x.above(0), 10);
        due("9 above 9", x.above(9), 10);
        due("9 above 10", x.above(10), 30);
        due("9 above 98", x.above(98), 99);
        due("9 above 99", x.above(99), NONE);
        due("9 above 100", x.above(100), OUTSIDE);
        due("9 above -1", x.above(-1), OUTSIDE);
        x.seats(0, 1);
        x.round();
        x.answer(1, 0);
        due("9 above, of any standing", x.above(30), 99);
        due("9 above without applicants", new KeptSeats().above(0), NONE);
    }

    private static void alike() {
        KeptSeats x = withMarks(10, 99, 10, 0, 10);
        due("10 alike", x.alike(10), 3);
        due("10 alike 0", x.alike(0), 1);
        due("10 alike 99", x.alike(99), 1);
        due("10 alike 50", x.alike(50), 0);
        due("10 alike 100", x.alike(100), OUTSIDE);
        due("10 alike -1", x.alike(-1), OUTSIDE);
        x.seats(0, 1);
        x.round();
        x.answer(1, 2);
        due("10 alike, of any standing", x.alike(99), 1);
        due("10 alike without applicants", new KeptSeats().alike(0), 0);
    }

    private static void seats() {
        KeptSeats x = new KeptSeats();
        due("11 seats", x.seats(3, 9), 0);
        due("11 seats", x.seats(3, 2), 9);
        due("11 seats is set", x.ofKind(3, 0), 2);
        due("11 seats of another", x.ofKind(2, 0), 0);
        due("11 seats is an act", x.many(4), 2);
        due("11 seats unknown", x.seats(4, 0), UNKNOWN);
        due("11 seats: UNKNOWN before OUTSIDE", x.seats(-1, 10), UNKNOWN);
        due("11 seats 10", x.seats(0, 10), OUTSIDE);
        due("11 seats -1", x.seats(0, -1), OUTSIDE);
    }

    private static void reserve() {
        KeptSeats x = new KeptSeats();
        due("12 reserve", x.reserve(3, 2, 5), 0);
        due("12 reserve", x.reserve(3, 2, 1), 5);
        due("12 reserve is set", x.ofKind(3, 12), 1);
        due("12 reserve of another group", x.ofKind(3, 13), 0);
        due("12 reserve of another kind", x.ofKind(2, 12), 0);
        due("12 reserve is an act", x.many(4), 2);
        due("12 reserve unknown kind", x.reserve(4, 0, 0), UNKNOWN);
        due("12 reserve unknown kind", x.reserve(-1, 0, 0), UNKNOWN);
        due("12 reserve unknown group", x.reserve(0, 4, 0), UNKNOWN);
        due("12 reserve unknown group", x.reserve(0, -1, 0), UNKNOWN);
        due("12 reserve: UNKNOWN before OUTSIDE", x.reserve(0, 4, 6), UNKNOWN);
        due("12 reserve 6", x.reserve(0, 0, 6), OUTSIDE);
        due("12 reserve -1", x.reserve(0, 0, -1), OUTSIDE);
    }

    private static void heir() {
        KeptSeats x = new KeptSeats();
        due("13 heir", x.heir(1, 0), NONE);
        due("13 heir", x.heir(1, 3), 0);
        due("13 heir itself", x.heir(1, 1), 3);
        due("13 heir none", x.heir(1, NONE), 1);
        due("13 heir of another", x.heir(3, 2), NONE);
        due("13 heir is an act", x.many(4), 5);
        due("13 heir of kind 0", x.heir(0, 1), UNKNOWN);
        due("13 heir of kind 4", x.heir(4, 1), UNKNOWN);
        due("13 heir: UNKNOWN before OUTSIDE", x.heir(0, 4), UNKNOWN);
        due("13 heir 4", x.heir(1, 4), OUTSIDE);
        due("13 heir -1", x.heir(1, -1), OUTSIDE);
        due("13 heir -8", x.heir(1, -8), OUTSIDE);
        due("13 heir -10", x.heir(1, -10), OUTSIDE);
    }

    private static void manner() {
        KeptSeats x = new KeptSeats();
        due("14 manner", x.manner(2), 0);
        due("14 manner", x.manner(1), 2);
        due("14 manner", x.manner(1), 1);
        due("14 manner is an act", x.many(4), 3);
        due("14 manner 3", x.manner(3), OUTSIDE);
        due("14 manner -1", x.manner(-1), OUTSIDE);
    }

    private static void order() {
        KeptSeats x = new KeptSeats();
        x.enter(50, 0, 1, 0);
        x.seats(0, 1);
        x.seats(1, 1);
        due("15 order at first", x.seat(0), 0);
        due("15 order", x.order(1, 0, 2, 3), 1);
        due("15 order is set", x.seat(0), 1);
        due("15 order", x.order(3, 2, 0, 1), 1);
        due("15 order is set", x.seat(0), 0);
        due("15 order is an act", x.many(4), 5);
        x.kind(0, 3);
        x.seats(3, 1);
        x.order(1, 2, 0, 3);
        due("15 order: third before fourth", x.seat(0), 0);
        x.order(1, 2, 3, 0);
        due("15 order: third before fourth", x.seat(0), 3);
        x.order(0, 1, 2, 3);
        x.seats(0, 0);
        due("15 order: the fourth", x.seat(0), 3);
        due("15 order 4", x.order(0, 4, 2, 3), OUTSIDE);
        due("15 order 4", x.order(0, 1, 4, 3), OUTSIDE);
        due("15 order 36", x.order(0, 33, 34, 3), OUTSIDE);
        due("15 order 36", x.order(0, 33, 2, 3), OUTSIDE);
        due("15 order 36", x.order(0, 1, 34, 3), OUTSIDE);
        due("15 order twice", x.order(0, 1, 1, 3), OUTSIDE);
        due("15 order 4", x.order(0, 1, 2, 4), OUTSIDE);
        due("15 order -1", x.order(-1, 1, 2, 3), OUTSIDE);
        due("15 order 32 above", x.order(32, 1, 2, 3), OUTSIDE);
        due("15 order 32 above", x.order(0, 1, 2, 35), OUTSIDE);
    }

    /** Two seats of kind 0, one of them for group 0; the third by rank is the only one with the group. */
    private static KeptSeats threeForTwo() {
        KeptSeats x = new KeptSeats();
        x.enter(90, 0, 1, 0);
        x.enter(80, 0, 1, 0);
        x.enter(70, 0, 2, 1);
        x.seats(0, 2);
        x.reserve(0, 0, 1);
        return x;
    }

    private static void seat() {
        KeptSeats x = threeForTwo();
        due("16 seat by rule 0", x.seat(0), 0);
        due("16 seat by rule 0", x.seat(1), NONE);
        due("16 seat by rule 0", x.seat(2), 0);
        x.manner(2);
        due("16 seat by rule 2", x.seat(1), 0);
        due("16 seat by rule 2", x.seat(2), NONE);
        x.manner(1);
        due("16 seat by rule 1", x.seat(1), NONE);
        due("16 seat by rule 1", x.seat(2), 0);
        x.seats(1, 1);
        due("16 seat of another kind", x.seat(1), 1);
        due("16 seat unknown", x.seat(3), UNKNOWN);
        due("16 seat unknown", x.seat(-1), UNKNOWN);
        due("16 seat unknown", x.seat(HIGHEST), UNKNOWN);
        due("16 seat is no act", x.many(4), 8);
        // By rule 0 a smaller mark does not matter as long as the fill is the greatest: 0 and 2 fill both groups.
        KeptSeats y = new KeptSeats();
        y.enter(90, 0, 0, 3);
        y.enter(80, 0, 0, 1);
        y.enter(70, 0, 0, 2);
        y.seats(0, 2);
        y.reserve(0, 0, 1);
        y.reserve(0, 1, 1);
        due("16 seat, overlap", y.seat(0), 0);
        due("16 seat, overlap", y.seat(1), 0);
        due("16 seat, overlap", y.seat(2), NONE);
        y.manner(1);
        due("16 seat by rule 1, the first group takes the best", y.seat(1), NONE);
        due("16 seat by rule 1, the first group takes the best", y.seat(2), 0);
        // Rule 1 stops when there are no more free seats.
        y.seats(0, 1);
        due("16 seat by rule 1, one seat", y.seat(0), 0);
        due("16 seat by rule 1, one seat", y.seat(2), NONE);
    }

    private static void counted() {
        KeptSeats x = threeForTwo();
        due("17 counted", x.counted(2), 0);
        due("17 counted: taken but not counted", x.counted(0), NONE);
        due("17 counted: not in the choice", x.counted(1), NONE);
        due("17 counted unknown", x.counted(3), UNKNOWN);
        due("17 counted unknown", x.counted(-1), UNKNOWN);
        x.groups(2, 12);
        x.reserve(0, 2, 1);
        x.reserve(0, 3, 1);
        due("17 counted to the smallest group", x.counted(2), 2);
        x.reserve(0, 2, 0);
        due("17 counted to the one with seats", x.counted(2), 3);
        // The smallest group is left to one who has no other.
        KeptSeats y = new KeptSeats();
        y.enter(90, 0, 0, 3);
        y.enter(80, 0, 0, 1);
        y.seats(0, 2);
        y.reserve(0, 0, 1);
        y.reserve(0, 1, 1);
        due("17 counted by rule 0", y.counted(0), 1);
        due("17 counted by rule 0", y.counted(1), 0);
        y.manner(2);
        due("17 counted by rule 2", y.counted(0), 1);
        due("17 counted by rule 2", y.counted(1), 0);
        y.manner(1);
        due("17 counted by rule 1", y.counted(0), 0);
        due("17 counted by rule 1", y.counted(1), NONE);
    }

    private static void countedToNoneBeforeOthers() {
        // One seat for group 0, two who have it: the better ranked one is counted.
        KeptSeats x = new KeptSeats();
        x.enter(70, 0, 0, 1);
        x.enter(90, 0, 0, 1);
        x.enter(80, 0, 0, 3);
        x.seats(0, 3);
        x.reserve(0, 0, 1);
        due("17 counted by rank", x.counted(0), NONE);
        due("17 counted by rank", x.counted(1), 0);
        due("17 counted by rank", x.counted(2), NONE);
        x.reserve(0, 1, 1);
        due("17 counted by rank", x.counted(0), NONE);
        due("17 counted by rank", x.counted(1), 0);
        due("17 counted by rank", x.counted(2), 1);
    }

    private static void handed() {
        KeptSeats x = new KeptSeats();
        x.enter(90, 0, 2, 1);
        x.enter(80, 0, 2, 1);
        x.enter(70, 0, 1, 1);
        x.seats(1, 3);
        x.reserve(1, 0, 3);
        due("18 handed: no heir", x.handed(0), 0);
        due("18 handed: no heir", x.seat(0), NONE);
        x.heir(1, 2);
        due("18 handed", x.handed(0), 1);
        due("18 handed", x.handed(1), 1);
        due("18 handed: taken", x.handed(2), 0);
        due("18 handed: kind from which it is passed on", x.seat(0), 1);
        due("18 handed: not counted", x.counted(0), NONE);
        due("18 handed: the taken one is counted", x.counted(2), 0);
        due("18 handed: not taken", x.taken(1, 0), 2);
        due("18 handed: not taken", x.taken(1, 1), NONE);
        x.seats(1, 2);
        due("18 handed to the best ranked", x.handed(0), 1);
        due("18 handed to the best ranked", x.handed(1), 0);
        due("18 handed unknown", x.handed(3), UNKNOWN);
        due("18 handed unknown", x.handed(-1), UNKNOWN);
        x.heir(1, 1);
        due("18 handed: its own heir", x.seat(0), NONE);
    }

    private static void handedChains() {
        KeptSeats x = new KeptSeats();
        x.enter(90, 0, 3, 0);
        x.enter(80, 0, 2, 0);
        x.enter(70, 0, 0, 0);
        x.seats(1, 1);
        x.heir(1, 2);
        x.heir(2, 3);
        x.heir(3, 0);
        due("18 chain: the first kind reached", x.seat(1), 1);
        x.seats(1, 2);
        due("18 chain: the next kind reached", x.seat(0), 1);
        due("18 chain: the next kind reached", x.seat(2), NONE);
        x.seats(1, 3);
        due("18 chain: kind 0 is open to all", x.seat(2), 1);
        x.heir(3, 2);
        due("18 chain: one that has been reached", x.seat(2), NONE);
        due("18 chain: one that has been reached", x.seat(0), 1);
        x.heir(2, 1);
        due("18 chain: the kind itself", x.seat(1), 1);
        due("18 chain: the kind itself", x.seat(0), NONE);
        x.heir(1, 0);
        due("18 chain: to kind 0", x.many(2), 3);
        x.seats(1, 0);
        x.seats(0, 2);
        due("18 kind 0 has no heir", x.many(2), 2);
        // In the present order: kind 2 passes its seat on before kind 1 does.
        KeptSeats y = new KeptSeats();
        y.enter(90, 0, 3, 0);
        y.enter(80, 0, 3, 0);
        y.seats(1, 1);
        y.seats(2, 1);
        y.heir(1, 3);
        y.heir(2, 3);
        due("18 passed on in order", y.seat(0), 1);
        due("18 passed on in order", y.seat(1), 2);
        y.order(2, 0, 1, 3);
        due("18 passed on in another order", y.seat(0), 2);
        due("18 passed on in another order", y.seat(1), 1);
    }

    private static void taken() {
        KeptSeats x = new KeptSeats();
        for (int p = 0; p < 16; p++) {
            x.enter(p * 5 % 16, 0, 0, 0);
        }
        x.seats(0, 9);
        for (int k = 0; k < 9; k++) {
            due("19 taken by rank", x.taken(0, k), x.ranked(k));
        }
        due("19 taken best", x.taken(0, 0), 3);
        x.seats(0, 8);
        due("19 taken no place", x.taken(0, 8), NONE);
        due("19 taken of a kind without seats", x.taken(1, 0), NONE);
        due("19 taken 9", x.taken(0, 9), OUTSIDE);
        due("19 taken -1", x.taken(0, -1), OUTSIDE);
        due("19 taken unknown", x.taken(4, 0), UNKNOWN);
        due("19 taken: UNKNOWN before OUTSIDE", x.taken(-1, 9), UNKNOWN);
    }

    private static void ofKind() {
        KeptSeats x = new KeptSeats();
        x.enter(90, 0, 0, 1);
        x.enter(80, 0, 0, 3);
        x.enter(70, 0, 0, 3);
        x.enter(60, 0, 0, 0);
        x.seats(0, 3);
        x.reserve(0, 0, 2);
        x.reserve(0, 1, 1);
        x.reserve(0, 3, 5);
        due("20 free seats", x.ofKind(0, 0), 3);
        due("20 taken", x.ofKind(0, 1), 3);
        due("20 counted", x.ofKind(0, 2), 3);
        due("20 nobody has", x.ofKind(0, 3), 0);
        due("20 worst mark", x.ofKind(0, 4), 70);
        due("20 fill", x.ofKind(0, 5), 3);
        due("20 free reserved 0", x.ofKind(0, 10), 2);
        due("20 free reserved 1", x.ofKind(0, 11), 1);
        due("20 free reserved 2", x.ofKind(0, 12), 0);
        due("20 free reserved 3", x.ofKind(0, 13), 5);
        due("20 counted to 0", x.ofKind(0, 20), 2);
        due("20 counted to 1", x.ofKind(0, 21), 1);
        due("20 counted to 2", x.ofKind(0, 22), 0);
        due("20 counted to 3", x.ofKind(0, 23), 0);
        x.reserve(0, 0, 1);
        x.groups(0, 3);
        x.groups(1, 1);
        x.groups(2, 0);
        x.manner(1);
        due("20 counted by rule 1", x.ofKind(0, 2), 1);
        due("20 fill by rule 1", x.ofKind(0, 5), 2);
        due("20 worst mark of none", x.ofKind(1, 4), NONE);
        int[] wrong = {-1, 6, 9, 14, 19, 24, 30, LOWEST, LOWEST + 10, LOWEST + 20, HIGHEST};
        for (int what : wrong) {
            due("20 what " + what, x.ofKind(0, what), OUTSIDE);
        }
        due("20 unknown", x.ofKind(4, 0), UNKNOWN);
        due("20 unknown", x.ofKind(-1, 0), UNKNOWN);
        due("20 UNKNOWN before OUTSIDE", x.ofKind(4, 6), UNKNOWN);
        frozenSeats();
    }

    private static void frozenSeats() {
        KeptSeats x = threeForTwo();
        x.round();
        x.answer(2, 2);
        due("20 free seats with a frozen one", x.ofKind(0, 0), 1);
        due("20 free reserved with a frozen one", x.ofKind(0, 10), 0);
        due("20 frozen is not taken", x.ofKind(0, 1), 1);
        x.answer(0, 2);
        due("20 free seats with two", x.ofKind(0, 0), 0);
        x.seats(0, 1);
        due("20 free seats at least 0", x.ofKind(0, 0), 0);
        x.seats(0, 2);
        x.reserve(0, 0, 0);
        due("20 free reserved at least 0", x.ofKind(0, 10), 0);
        x.seats(0, 4);
        due("20 free seats after more", x.ofKind(0, 0), 2);
        x.reserve(0, 0, 3);
        due("20 free reserved after more", x.ofKind(0, 10), 2);
        due("20 other group", x.ofKind(0, 11), 0);
        x.kind(2, 3);
        x.groups(2, 0);
        due("20 the note counts, not the kind now", x.ofKind(0, 0), 2);
        due("20 the note counts, not the groups now", x.ofKind(0, 10), 2);
    }

    private static void ofKindFreeSeatsNobodyHas() {
        KeptSeats x = new KeptSeats();
        x.enter(90, 0, 2, 0);
        x.enter(80, 0, 1, 0);
        x.seats(1, 4);
        due("20 nobody has", x.ofKind(1, 3), 3);
        x.heir(1, 2);
        due("20 nobody has, one passed on", x.ofKind(1, 3), 2);
        due("20 taken, one passed on", x.ofKind(1, 1), 1);
        due("20 worst mark, one passed on", x.ofKind(1, 4), 80);
    }

    private static void ways() {
        KeptSeats x = new KeptSeats();
        for (int p = 0; p < 9; p++) {
            x.enter(50, 0, 0, 15);
        }
        x.seats(0, 9);
        due("21 ways: nobody can be counted", x.ways(0), 1);
        x.reserve(0, 0, 1);
        due("21 ways: one of nine", x.ways(0), 9);
        x.reserve(0, 0, 5);
        due("21 ways: five of nine", x.ways(0), 126);
        x.reserve(0, 0, 1);
        x.reserve(0, 1, 1);
        due("21 ways: two of nine", x.ways(0), 72);
        x.reserve(0, 1, 2);
        due("21 ways: 9!/(1! 2! 6!)", x.ways(0), 252);
        for (int g = 0; g < 4; g++) {
            x.reserve(0, g, 5);
        }
        // All nine words over four letters in which no letter stands more than five times.
        due("21 ways: with the greatest numbers", x.ways(0), 4 * 4 * 4 * 4 * 4 * 4 * 4 * 4 * 4 - 4 * (84 * 27 + 36 * 9 + 9 * 3 + 1));
        KeptSeats y = new KeptSeats();
        y.enter(90, 0, 0, 3);
        y.enter(80, 0, 0, 1);
        y.enter(70, 0, 0, 2);
        y.seats(0, 3);
        y.reserve(0, 0, 1);
        y.reserve(0, 1, 1);
        due("21 ways, overlap", y.ways(0), 3);
        y.manner(1);
        due("21 ways by rule 1: as many as their fill", y.ways(0), 3);
        y.groups(2, 0);
        y.groups(0, 3);
        due("21 ways by rule 1, counted fewer than the fill", y.ways(0), 1);
        due("21 ways of an empty kind", y.ways(3), 1);
        due("21 ways unknown", y.ways(4), UNKNOWN);
        due("21 ways unknown", y.ways(-1), UNKNOWN);
    }

    private static void by() {
        KeptSeats x = threeForTwo();
        due("22 by rule 0: set", x.by(0, 0), 5);
        due("22 by rule 1: set", x.by(1, 0), 5);
        due("22 by rule 2: set", x.by(2, 0), 3);
        due("22 by: number", x.by(2, 1), 2);
        due("22 by rule 0: marks", x.by(0, 2), 160);
        due("22 by rule 2: marks", x.by(2, 2), 170);
        due("22 by rule 0: counted", x.by(0, 3), 1);
        due("22 by rule 1: counted", x.by(1, 3), 1);
        due("22 by rule 2: counted", x.by(2, 3), 0);
        due("22 by: nothing changes", x.manner(0), 0);
        due("22 by: nothing changes", x.seat(2), 0);
        due("22 by 3", x.by(3, 0), OUTSIDE);
        due("22 by -1", x.by(-1, 0), OUTSIDE);
        due("22 by what 4", x.by(0, 4), OUTSIDE);
        due("22 by what -1", x.by(0, -1), OUTSIDE);
        x.seats(3, 1);
        x.heir(3, 1);
        due("22 by: with the one to whom a seat is passed on", x.by(0, 0), 7);
        due("22 by: with the one to whom a seat is passed on", x.by(0, 2), 240);
    }

    private static void sure() {
        KeptSeats x = new KeptSeats();
        x.enter(90, 0, 1, 0);
        x.enter(80, 0, 0, 0);
        x.enter(70, 0, 1, 0);
        x.seats(0, 1);
        x.seats(1, 1);
        // Kind 0 first: 0 and then 2. Kind 1 first: 0 and then 1.
        due("23 sure", x.sure(0), 1);
        due("23 sure with some order", x.sure(1), 7);
        due("23 sure: nothing changes", x.seat(2), 1);
        due("23 sure 2", x.sure(2), OUTSIDE);
        due("23 sure -1", x.sure(-1), OUTSIDE);
        x.order(1, 0, 2, 3);
        due("23 sure, with another order now", x.sure(0), 1);
        due("23 sure: nothing changes", x.seat(1), 0);
        due("23 sure without applicants", new KeptSeats().sure(0), 0);
        KeptSeats y = withMarks(10, 20);
        y.seats(0, 1);
        due("23 sure: never", y.sure(1), 2);
        due("23 sure: always", y.sure(0), 2);
    }

    private static void threshold() {
        KeptSeats x = withMarks(50, 40, 30);
        x.seats(0, 1);
        due("24 threshold: ticket and number ahead", x.threshold(0), 40);
        due("24 threshold: behind an equal mark", x.threshold(1), 51);
        x.ticket(0, 1);
        due("24 threshold: ahead by ticket", x.threshold(1), 50);
        due("24 threshold", x.threshold(2), 50);
        due("24 threshold: nothing changes", x.ofPerson(2, 0), 30);
        x.seats(0, 3);
        due("24 threshold 0", x.threshold(2), 0);
        x.seats(0, 0);
        due("24 threshold none", x.threshold(0), NONE);
        due("24 threshold unknown", x.threshold(3), UNKNOWN);
        due("24 threshold unknown", x.threshold(-1), UNKNOWN);
        KeptSeats y = withMarks(99, 30);
        y.seats(0, 1);
        due("24 threshold: 100 would be needed", y.threshold(1), NONE);
        y.mark(0, 98);
        due("24 threshold 99", y.threshold(1), 99);
        y.round();
        y.answer(0, 2);
        due("24 threshold of a frozen one", y.threshold(0), STATE);
        y.seats(0, 2);
        y.round();
        due("24 threshold of an offered one", y.threshold(1), 0);
        y.answer(1, 1);
        due("24 threshold of a floating one", y.threshold(1), 0);
        y.answer(1, 0);
        due("24 threshold of one who is out", y.threshold(1), STATE);
    }

    private static void claim() {
        KeptSeats x = new KeptSeats();
        x.enter(90, 0, 0, 0);
        x.enter(80, 0, 0, 0);
        x.enter(70, 0, 0, 0);
        x.seats(0, 1);
        due("25 claim: in the choice", x.claim(0), 0);
        due("25 claim: none", x.claim(1), NONE);
        x.reserve(0, 3, 1);
        due("25 claim", x.claim(1), 8);
        x.reserve(0, 1, 1);
        due("25 claim: the lowest", x.claim(1), 2);
        due("25 claim: nothing changes", x.ofPerson(1, 3), 0);
        x.groups(0, 2);
        due("25 claim: group 1 is not enough", x.claim(1), NONE);
        due("25 claim unknown", x.claim(3), UNKNOWN);
        due("25 claim unknown", x.claim(-1), UNKNOWN);
        x.round();
        x.answer(0, 0);
        due("25 claim of one who is out", x.claim(0), STATE);
        fewestGroups();
    }

    private static void fewestGroups() {
        // Two seats, one for group 0 and one for group 1; the better ranked ones have group 0 or group 1.
        KeptSeats x = new KeptSeats();
        x.enter(90, 0, 0, 1);
        x.enter(80, 0, 0, 1);
        x.enter(70, 0, 0, 0);
        x.seats(0, 2);
        x.reserve(0, 0, 1);
        x.reserve(0, 1, 1);
        due("25 claim: the free group", x.claim(2), 2);
        x.reserve(0, 1, 0);
        x.reserve(0, 2, 1);
        due("25 claim: the free group", x.claim(2), 4);
        x.groups(2, 4);
        due("25 claim: has it", x.claim(2), 0);
        due("25 claim: what 1 lacks", x.claim(1), 4);
    }

    private static void successor() {
        KeptSeats x = threeForTwo();
        x.enter(60, 0, 3, 1);
        due("26 successor of one who is counted", x.successor(2), 3);
        due("26 successor of the other", x.successor(0), 1);
        due("26 successor: not in the choice", x.successor(1), STATE);
        due("26 successor unknown", x.successor(4), UNKNOWN);
        due("26 successor unknown", x.successor(-1), UNKNOWN);
        due("26 successor: nothing changes", x.ofPerson(2, 4), 0);
        x.seats(0, 9);
        due("26 successor: none", x.successor(0), NONE);
        x.seats(0, 1);
        due("26 successor: the other one with the group", x.successor(2), 3);
        x.reserve(0, 0, 0);
        due("26 successor: the next by rank", x.successor(0), 1);
        x.reserve(0, 0, 1);
        x.groups(3, 0);
        due("26 successor: the best ranked", x.successor(2), 0);
        x.round();
        x.answer(2, 2);
        due("26 successor of a frozen one", x.successor(2), STATE);
    }

    private static void passed() {
        KeptSeats x = threeForTwo();
        due("27 passed", x.passed(1), 4);
        due("27 passed: in the choice", x.passed(0), STATE);
        due("27 passed unknown", x.passed(3), UNKNOWN);
        due("27 passed unknown", x.passed(-1), UNKNOWN);
        KeptSeats y = new KeptSeats();
        y.enter(10, 0, 0, 1);
        y.enter(20, 0, 0, 1);
        y.enter(90, 0, 0, 0);
        y.enter(95, 0, 1, 0);
        y.seats(0, 2);
        y.reserve(0, 0, 2);
        due("27 passed: two", y.passed(2), 3);
        y.seats(1, 1);
        due("27 passed: not one who is ahead", y.passed(2), 3);
        x.manner(2);
        due("27 passed: nobody", x.passed(2), 0);
        x.manner(0);
        x.round();
        x.answer(0, 0);
        due("27 passed: out", x.passed(0), STATE);
        x.seats(0, 1);
        due("27 passed after that", x.passed(1), 4);
        x.answer(2, 2);
        due("27 passed: a frozen one is not in the choice", x.passed(1), 0);
    }

    private static void nearest() {
        KeptSeats x = withMarks(50, 40, 45, 45);
        x.seats(0, 1);
        // Thresholds 51 each: 11, 6 and 6 are lacking.
        due("28 nearest", x.nearest(0), 2);
        due("28 nearest, by rank", x.nearest(1), 3);
        due("28 nearest", x.nearest(2), 1);
        due("28 nearest no place", x.nearest(3), NONE);
        due("28 nearest no place", x.nearest(15), NONE);
        due("28 nearest 16", x.nearest(16), OUTSIDE);
        due("28 nearest -1", x.nearest(-1), OUTSIDE);
        x.mark(0, 99);
        due("28 nearest: no threshold", x.nearest(0), NONE);
        x.ticket(0, 1);
        due("28 nearest: all have one", x.nearest(2), 1);
        x.round();
        x.answer(0, 2);
        due("28 nearest: no seat left", x.nearest(0), NONE);
        x.seats(0, 2);
        due("28 nearest: 2 has the seat", x.nearest(0), 3);
        x.groups(1, 2);
        x.reserve(0, 1, 1);
        due("28 nearest: reserved for 1", x.nearest(0), NONE);
    }

    private static void envy() {
        KeptSeats x = threeForTwo();
        due("29 envy: the fill would be smaller", x.envy(), 0);
        x.groups(1, 1);
        due("29 envy: 1 is taken then", x.envy(), 0);
        x.manner(2);
        due("29 envy by rule 2", x.envy(), 0);
        // By rule 1 the best two of group 0 and 1 are not those who fill them.
        KeptSeats y = new KeptSeats();
        y.enter(90, 0, 0, 3);
        y.enter(80, 0, 0, 1);
        y.enter(70, 0, 0, 2);
        y.seats(0, 2);
        y.reserve(0, 0, 1);
        y.reserve(0, 1, 1);
        y.manner(1);
        due("29 envy: 1 of 2", y.envy(), 1);
        y.enter(85, 0, 0, 0);
        due("29 envy: not of one who would not fill", y.envy(), 1);
        y.reserve(0, 0, 0);
        due("29 envy: of nobody behind", y.envy(), 0);
        envyOfSeveral();
        kindsOfEnvy();
    }

    /** By rule 1 the applicant with both groups is taken for the first, and the worst two for the second. */
    private static void envyOfSeveral() {
        KeptSeats x = new KeptSeats();
        x.enter(10, 0, 0, 2);
        x.enter(20, 0, 0, 2);
        x.enter(60, 0, 0, 1);
        x.enter(70, 0, 0, 1);
        x.enter(80, 0, 0, 0);
        x.enter(90, 0, 0, 3);
        x.seats(0, 3);
        x.reserve(0, 0, 1);
        x.reserve(0, 1, 2);
        x.manner(1);
        due("29 envy: 5, 1 and 0 are taken", x.by(1, 0), 35);
        due("29 envy: 2 and 3 of 0 and of 1", x.envy(), 4);
        x.kind(3, 1);
        due("29 envy: kind 0 is open to all", x.envy(), 4);
        x.mark(2, 15);
        due("29 envy: not of one who is ahead", x.envy(), 3);
        x.seats(1, 1);
        due("29 envy: not by one who has a seat", x.envy(), 1);
        x.back(3);
        x.round();
        x.answer(0, 2);
        due("29 envy: not of a frozen one", x.envy(), 2);
        x.answer(5, 0);
        due("29 envy: not by one who is out", x.envy(), 0);
    }

    private static void kindsOfEnvy() {
        // Kind 1 has a worse ranked one; only candidates of kind 1 can envy it.
        KeptSeats x = new KeptSeats();
        x.enter(90, 0, 0, 0);
        x.enter(80, 0, 2, 0);
        x.enter(70, 0, 1, 0);
        x.seats(1, 1);
        due("29 envy: no candidates", x.envy(), 0);
        x.order(1, 0, 2, 3);
        x.enter(60, 0, 1, 1);
        x.reserve(1, 0, 1);
        due("29 envy: fill", x.envy(), 0);
        x.heir(1, 0);
        x.seats(1, 3);
        due("29 envy: not of a seat that was passed on", x.envy(), 0);
        KeptSeats y = new KeptSeats();
        y.enter(90, 0, 1, 0);
        y.enter(80, 0, 2, 1);
        y.enter(70, 0, 2, 2);
        y.seats(0, 1);
        y.seats(2, 1);
        y.reserve(0, 0, 1);
        // Kind 0 takes 1 for group 0, kind 2 takes 2; 0 is a candidate of kind 0 only.
        due("29 envy", y.envy(), 0);
        y.manner(2);
        due("29 envy", y.envy(), 0);
        y.manner(0);
        y.groups(0, 2);
        y.reserve(0, 0, 0);
        y.order(2, 0, 1, 3);
        due("29 envy in order 2, 0", y.envy(), 0);
    }

    private static void round() {
        KeptSeats x = withMarks(90, 80, 70);
        x.seats(0, 1);
        due("30 round", x.round(), 1);
        due("30 round: offered", x.ofPerson(0, 4), 1);
        due("30 round: waiting", x.ofPerson(1, 4), 0);
        due("30 round is an act", x.many(4), 5);
        due("30 round: who did not answer is out", x.round(), 1);
        due("30 round: out", x.ofPerson(0, 4), 4);
        due("30 round: without a note", x.note(0, 0), NONE);
        due("30 round: offered", x.ofPerson(1, 4), 1);
        x.answer(1, 1);
        due("30 round: floating stays", x.round(), 0);
        due("30 round: floating stays", x.ofPerson(1, 4), 2);
        x.mark(1, 10);
        due("30 round: another in its place", x.round(), 1);
        due("30 round: floating becomes waiting", x.ofPerson(1, 4), 0);
        due("30 round: and loses its note", x.note(1, 0), NONE);
        due("30 rounds", x.many(3), 4);
        x.back(1);
        due("30 round taken back", x.ofPerson(1, 4), 2);
        due("30 round taken back", x.note(1, 0), 0);
        due("30 rounds", x.many(3), 3);
        due("30 round without applicants", new KeptSeats().round(), 0);
        KeptSeats y = withMarks(90);
        y.seats(0, 2);
        y.round();
        y.answer(0, 1);
        y.kind(0, 1);
        y.order(1, 0, 2, 3);
        y.seats(1, 1);
        due("30 round: floating gets another seat", y.round(), 0);
        due("30 round: and a new note", y.note(0, 0), 1);
    }

    private static void answer() {
        KeptSeats x = withMarks(90, 80, 70, 60);
        x.seats(0, 3);
        due("31 answer: waiting", x.answer(0, 0), STATE);
        x.round();
        due("31 answer 1", x.answer(0, 1), 1);
        due("31 answer 1: floating", x.ofPerson(0, 4), 2);
        due("31 answer 1: note", x.note(0, 0), 0);
        due("31 answer 1 again", x.answer(0, 1), 2);
        due("31 answer 2", x.answer(0, 2), 2);
        due("31 answer 2: frozen", x.ofPerson(0, 4), 3);
        due("31 answer 2: note", x.note(0, 0), 0);
        due("31 answer: frozen", x.answer(0, 0), STATE);
        due("31 answer 2 at once", x.answer(1, 2), 1);
        due("31 answer 0", x.answer(2, 0), 1);
        due("31 answer 0: out", x.ofPerson(2, 4), 4);
        due("31 answer 0: no note", x.note(2, 0), NONE);
        due("31 answer: out", x.answer(2, 1), STATE);
        due("31 answer is an act", x.many(4), 11);
        due("31 answer unknown", x.answer(4, 0), UNKNOWN);
        due("31 answer: UNKNOWN before OUTSIDE", x.answer(-1, 3), UNKNOWN);
        due("31 answer 3", x.answer(0, 3), OUTSIDE);
        due("31 answer -1: OUTSIDE before STATE", x.answer(3, -1), OUTSIDE);
    }

    private static void again() {
        KeptSeats x = withMarks(90, 80);
        x.seats(0, 1);
        x.round();
        due("32 again: offered", x.again(0), STATE);
        due("32 again: waiting", x.again(1), STATE);
        x.answer(0, 0);
        due("32 again", x.again(0), 1);
        due("32 again: waiting", x.ofPerson(0, 4), 0);
        due("32 again: no note", x.note(0, 0), NONE);
        due("32 again: in the choice", x.seat(0), 0);
        due("32 again is an act", x.many(4), 6);
        due("32 again twice", x.again(0), STATE);
        x.round();
        x.answer(0, 1);
        due("32 again: floating", x.again(0), STATE);
        x.answer(0, 2);
        due("32 again: frozen", x.again(0), STATE);
        due("32 again unknown", x.again(2), UNKNOWN);
        due("32 again unknown", x.again(-1), UNKNOWN);
    }

    private static void note() {
        KeptSeats x = new KeptSeats();
        x.enter(90, 0, 2, 0);
        x.enter(80, 0, 1, 4);
        x.seats(1, 3);
        x.reserve(1, 2, 1);
        x.heir(1, 2);
        for (int what = 0; what < 3; what++) {
            due("33 note: none", x.note(0, what), NONE);
        }
        x.round();
        due("33 note: kind of a seat that was passed on", x.note(0, 0), 1);
        due("33 note: no group", x.note(0, 1), NONE);
        due("33 note: passed on", x.note(0, 2), 1);
        due("33 note: kind", x.note(1, 0), 1);
        due("33 note: group", x.note(1, 1), 2);
        due("33 note: not passed on", x.note(1, 2), 0);
        x.answer(1, 1);
        x.groups(1, 0);
        x.heir(1, NONE);
        due("33 note does not change", x.note(1, 1), 2);
        due("33 note does not change", x.note(0, 2), 1);
        x.round();
        due("33 note in place of an earlier one", x.note(1, 1), NONE);
        due("33 note lost", x.note(0, 2), NONE);
        due("33 note 3", x.note(0, 3), OUTSIDE);
        due("33 note -1, and no note", x.note(0, -1), OUTSIDE);
        due("33 note unknown", x.note(2, 0), UNKNOWN);
        due("33 note: UNKNOWN before OUTSIDE", x.note(-1, 3), UNKNOWN);
        // A frozen one with a seat that was passed on occupies a seat of the kind from which it came.
        KeptSeats y = new KeptSeats();
        y.enter(90, 0, 2, 0);
        y.seats(1, 3);
        y.heir(1, 2);
        y.round();
        y.answer(0, 2);
        due("33 frozen with a seat that was passed on", y.ofKind(1, 0), 2);
    }

    private static void back() {
        KeptSeats x = new KeptSeats();
        due("34 back 0 at first", x.back(0), 0);
        due("34 back 1 at first", x.back(1), OUTSIDE);
        x.enter(90, 7, 1, 3);
        x.seats(1, 2);
        x.reserve(1, 0, 1);
        x.heir(1, 2);
        x.manner(2);
        x.order(3, 2, 1, 0);
        x.round();
        x.answer(0, 1);
        x.mark(0, 1);
        x.ticket(0, 2);
        x.kind(0, 2);
        x.groups(0, 4);
        due("34 back 13 of 12", x.back(13), OUTSIDE);
        due("34 back -1", x.back(-1), OUTSIDE);
        due("34 back 0", x.back(0), 12);
        due("34 back 4", x.back(4), 8);
        due("34 back: mark", x.ofPerson(0, 0), 90);
        due("34 back: ticket", x.ofPerson(0, 1), 7);
        due("34 back: kind", x.ofPerson(0, 2), 1);
        due("34 back: groups", x.ofPerson(0, 3), 3);
        due("34 back: standing", x.ofPerson(0, 4), 2);
        due("34 back 1", x.back(1), 7);
        due("34 back: standing", x.ofPerson(0, 4), 1);
        due("34 back 1", x.back(1), 6);
        due("34 back: standing", x.ofPerson(0, 4), 0);
        due("34 back: note", x.note(0, 0), NONE);
        due("34 back: rounds", x.many(3), 0);
        due("34 back 4", x.back(4), 2);
        due("34 back: manner, order, heir", x.manner(0), 0);
        due("34 back: heir", x.heir(1, 0), NONE);
        due("34 back: reserved", x.reserve(1, 0, 0), 0);
        due("34 back all", x.back(5), 0);
        due("34 back: nobody", x.many(0), 0);
        due("34 back: seats", x.seats(1, 0), 0);
        due("34 back far out", x.back(HIGHEST), OUTSIDE);
        due("34 back far out", x.back(LOWEST), OUTSIDE);
    }

    private static void backOverManyActs() {
        KeptSeats x = withMarks(0);
        for (int v = 1; v <= 70; v++) {
            x.mark(0, v);
            due("34 the latest 24", x.many(4), Math.min(24, v + 1));
        }
        due("34 back 25", x.back(25), OUTSIDE);
        due("34 back 10", x.back(10), 14);
        due("34 back 10", x.ofPerson(0, 0), 60);
        due("34 back: the choice too", x.seat(0), NONE);
        x.seats(0, 1);
        due("34 back: the choice too", x.seat(0), 0);
        x.back(1);
        due("34 back: the choice too", x.seat(0), NONE);
        x.mark(0, 99);
        due("34 back 15", x.back(15), 0);
        due("34 back 15: no further", x.ofPerson(0, 0), 46);
        due("34 back 1", x.back(1), OUTSIDE);
        x.round();
        due("34 a new act", x.back(1), 0);
        for (int i = 0; i < 30; i++) {
            x.round();
        }
        due("34 rounds further back than 24 stay", x.back(24), 0);
        due("34 rounds further back than 24 stay", x.many(3), 6);
    }

    private static void many() {
        KeptSeats x = threeForTwo();
        x.seats(2, 1);
        due("35 applicants", x.many(0), 3);
        due("35 active", x.many(1), 3);
        due("35 in the choice", x.many(2), 2);
        due("35 rounds", x.many(3), 0);
        due("35 acts", x.many(4), 6);
        due("35 counted", x.many(5), 1);
        due("35 frozen", x.many(6), 0);
        due("35 out", x.many(7), 0);
        x.round();
        x.answer(0, 2);
        x.answer(2, 0);
        due("35 applicants", x.many(0), 3);
        due("35 active", x.many(1), 1);
        due("35 in the choice", x.many(2), 1);
        due("35 rounds", x.many(3), 1);
        due("35 acts", x.many(4), 9);
        due("35 counted", x.many(5), 0);
        due("35 frozen", x.many(6), 1);
        due("35 out", x.many(7), 1);
        x.seats(0, 3);
        x.round();
        x.answer(1, 2);
        due("35 two frozen", x.many(6), 2);
        due("35 one out", x.many(7), 1);
        x.back(3);
        x.back(3);
        due("35 rounds", x.many(3), 0);
        due("35 acts", x.many(4), 6);
        due("35 many 8", x.many(8), OUTSIDE);
        due("35 many -1", x.many(-1), OUTSIDE);
    }

    private static void errorsAreNoActs() {
        KeptSeats x = withMarks(50);
        x.enter(100, 0, 0, 0);
        x.mark(0, 100);
        x.ticket(1, 0);
        x.kind(0, 4);
        x.groups(0, 16);
        x.seats(4, 0);
        x.reserve(0, 0, 6);
        x.heir(0, 0);
        x.manner(3);
        x.order(0, 0, 0, 0);
        x.answer(0, 0);
        x.again(0);
        x.back(9);
        due("an error is no act", x.many(4), 1);
        due("an error changes nothing", x.ofPerson(0, 0), 50);
        due("an error changes nothing", x.ofPerson(0, 4), 0);
        due("an error changes nothing", x.many(0), 1);
    }
}
