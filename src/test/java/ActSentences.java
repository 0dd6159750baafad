/** The description's sentences on rounds, acts and errors. */
final class ActSentences extends Part {
    ActSentences(Sentences sentences) {
        super(sentences);
    }

    @Override
    void tell() {
        in("Description");
        rounds();
        notes();
        acts();
        errors();
        orderOfErrors();
        refusedCalls();
        none();
    }

    private void rounds() {
        says("In a round, first all applicants who are offered become out.", () -> {
            KeptSeats x = withMarks(90, 80, 70);
            x.seats(0, 2);
            due("two offers", x.round(), 2);
            due("their seats are for the others then", x.round(), 1);
            due("out", x.ofPerson(0, 4), OUT);
            due("out", x.ofPerson(1, 4), OUT);
            due("offered", x.ofPerson(2, 4), OFFERED);
            due("the last one", x.round(), 0);
            due("out", x.ofPerson(2, 4), OUT);
            due("nobody is active", x.many(1), 0);
            due("a round with nobody", x.round(), 0);
        });
        says("Then, by the choice as it is then, those in it who are waiting become offered, and those not in it who are floating "
            + "become waiting.", () -> {
            KeptSeats x = withMarks(90, 80, 70, 60);
            x.seats(0, 3);
            x.round();
            x.answer(0, 1);
            x.answer(1, 2);
            x.answer(2, 1);
            x.mark(0, 10);
            x.seats(0, 2);
            due("no offer: 2 has the only free seat", x.round(), 0);
            due("floating and not in it: waiting", x.ofPerson(0, 4), WAITING);
            due("frozen stays", x.ofPerson(1, 4), FROZEN);
            due("floating and in it: floating", x.ofPerson(2, 4), FLOATING);
            due("waiting and not in it: waiting", x.ofPerson(3, 4), WAITING);
            x.seats(0, 4);
            due("both who wait", x.round(), 2);
            due("waiting and in it: offered", x.ofPerson(0, 4), OFFERED);
            due("waiting and in it: offered", x.ofPerson(3, 4), OFFERED);
            due("floating still", x.ofPerson(2, 4), FLOATING);
        });
        says("Each applicant in it gets a note, in place of an earlier one: the kind of the seat, the group to which it is counted, "
            + "or none, and whether the seat was passed on.", () -> {
            KeptSeats x = new KeptSeats();
            x.enter(90, 0, 2, 6);
            x.enter(80, 0, 1, 0);
            x.seats(1, 2);
            x.heir(1, 2);
            x.round();
            sameNote(x, 0, 1, NONE, 1);
            sameNote(x, 1, 1, NONE, 0);
            x.answer(0, 1);
            x.answer(1, 1);
            x.seats(2, 1);
            x.reserve(2, 2, 1);
            x.groups(1, 8);
            x.reserve(1, 3, 1);
            x.round();
            sameNote(x, 0, 2, 2, 0);
            sameNote(x, 1, 1, 3, 0);
            x.reserve(2, 2, 0);
            x.round();
            sameNote(x, 0, 2, NONE, 0);
        });
    }

    private void sameNote(KeptSeats x, int p, int kind, int group, int handed) {
        due("note of " + p + ": kind", x.note(p, 0), kind);
        due("note of " + p + ": group", x.note(p, 1), group);
        due("note of " + p + ": passed on", x.note(p, 2), handed);
    }

    private void notes() {
        says("A note does not change later;", () -> {
            KeptSeats x = new KeptSeats();
            x.enter(90, 0, 1, 2);
            x.enter(80, 0, 2, 2);
            x.seats(1, 2);
            x.reserve(1, 1, 1);
            x.heir(1, 2);
            x.round();
            x.answer(0, 2);
            x.kind(0, 3);
            x.groups(0, 0);
            x.mark(0, 0);
            x.reserve(1, 1, 0);
            x.seats(1, 0);
            x.heir(1, NONE);
            x.seats(0, 2);
            x.manner(2);
            x.order(3, 2, 1, 0);
            sameNote(x, 0, 1, 1, 0);
            sameNote(x, 1, 1, NONE, 1);
            x.answer(1, 1);
            sameNote(x, 1, 1, NONE, 1);
            x.round();
            sameNote(x, 0, 1, 1, 0);
            x.answer(1, 2);
            x.round();
            sameNote(x, 1, 0, NONE, 0);
        });
        says("an applicant who becomes waiting or out loses it, one who becomes frozen keeps it.", () -> {
            KeptSeats x = withMarks(90, 80, 70, 60);
            x.seats(0, 4);
            x.round();
            x.answer(0, 2);
            sameNote(x, 0, 0, NONE, 0);
            x.answer(1, 0);
            sameNote(x, 1, NONE, NONE, NONE);
            x.answer(2, 1);
            x.seats(0, 1);
            x.round();
            due("waiting", x.ofPerson(2, 4), WAITING);
            sameNote(x, 2, NONE, NONE, NONE);
            due("out", x.ofPerson(3, 4), OUT);
            sameNote(x, 3, NONE, NONE, NONE);
            x.again(3);
            sameNote(x, 3, NONE, NONE, NONE);
            sameNote(x, 0, 0, NONE, 0);
        });
    }

    private void acts() {
        says("The methods that are called acts below can be taken back, if they returned no error (also if nothing became "
            + "different), the latest one first;", () -> {
            KeptSeats x = withMarks(50);
            x.mark(0, 50);
            x.ticket(0, 0);
            x.kind(0, 0);
            x.groups(0, 0);
            x.seats(0, 0);
            x.reserve(0, 0, 0);
            x.heir(1, NONE);
            x.manner(0);
            x.order(0, 1, 2, 3);
            due("acts that made nothing different", x.many(4), 10);
            x.round();
            due("a round that made no offer", x.many(4), 11);
            x.seats(0, 1);
            x.round();
            x.answer(0, 1);
            x.answer(0, 1);
            due("an answer that made nothing different", x.many(4), 15);
            x.answer(0, 0);
            x.again(0);
            due("all of them", x.many(4), 17);
            int[] standings = {OUT, FLOATING, FLOATING, OFFERED, WAITING};
            for (int i = 0; i < standings.length; i++) {
                due("taken back", x.back(1), 16 - i);
                due("the latest one first", x.ofPerson(0, 4), standings[i]);
            }
            due("all but the first", x.back(11), 1);
            due("one applicant", x.many(0), 1);
            due("the first", x.back(1), 0);
            due("no applicant", x.many(0), 0);
        });
        says("at most the latest 24 of them.", () -> {
            KeptSeats x = withMarks(0);
            for (int v = 1; v < 24; v++) {
                x.mark(0, v);
            }
            due("24 acts", x.many(4), 24);
            due("all can be taken back", x.back(24), 0);
            due("all", x.many(0), 0);
            x.enter(0, 0, 0, 0);
            for (int v = 1; v <= 24; v++) {
                x.mark(0, v);
            }
            due("25 acts", x.many(4), 24);
            due("25 cannot be taken back", x.back(25), OUTSIDE);
            due("24 can", x.back(24), 0);
            due("as it was after the first act", x.ofPerson(0, 0), 0);
            due("the first cannot", x.back(1), OUTSIDE);
            for (int v = 1; v <= 60; v++) {
                x.mark(0, v);
            }
            due("30 of 60, too many", x.back(30), OUTSIDE);
            due("20 of 60", x.back(20), 4);
            due("after the 40th", x.ofPerson(0, 0), 40);
            x.mark(0, 99);
            due("5 more", x.back(5), 0);
            due("after the 36th", x.ofPerson(0, 0), 36);
        });
    }

    private void errors() {
        says("UNKNOWN: there is no such applicant, kind or group.", () -> {
            KeptSeats x = withMarks(50);
            int[] people = {-1, 1, 15, 16, -9, LOWEST, HIGHEST};
            for (int p : people) {
                unknownApplicant(x, p);
            }
            int[] numbers = {-1, 4, -9, 32, LOWEST, HIGHEST};
            for (int n : numbers) {
                due("seats " + n, x.seats(n, 1), UNKNOWN);
                due("reserve " + n, x.reserve(n, 0, 1), UNKNOWN);
                due("reserve 0, " + n, x.reserve(0, n, 1), UNKNOWN);
                due("heir " + n, x.heir(n, 1), UNKNOWN);
                due("taken " + n, x.taken(n, 0), UNKNOWN);
                due("ofKind " + n, x.ofKind(n, 0), UNKNOWN);
                due("ways " + n, x.ways(n), UNKNOWN);
            }
            due("heir 0", x.heir(0, 1), UNKNOWN);
        });
        says("OUTSIDE: another argument is out of its range.", () -> {
            KeptSeats x = withMarks(50);
            x.seats(0, 1);
            x.round();
            int[] numbers = {-1, 1000, -10, LOWEST, HIGHEST};
            for (int n : numbers) {
                outsideArgument(x, n);
            }
        });
        says("STATE: the call is not possible, as the method says.", () -> {
            KeptSeats x = eachStanding();
            int[] answers = {STATE, OFFERED, FLOATING, STATE, STATE};
            for (int p = 0; p < 5; p++) {
                boolean isActive = p <= FLOATING;
                due("threshold of standing " + p, x.threshold(p), isActive ? 0 : STATE);
                due("claim of standing " + p, x.claim(p), isActive ? 0 : STATE);
                due("successor of standing " + p, x.successor(p), isActive ? NONE : STATE);
                due("passed of standing " + p, x.passed(p), STATE);
                due("again of standing " + p, x.again(p), p == OUT ? 1 : STATE);
                due("answer of standing " + p, x.answer(p, 1), answers[p]);
            }
        });
        says("FULL: there is no room.", () -> {
            KeptSeats x = full();
            due("a 17th", x.enter(0, 0, 0, 0), FULL);
            due("a 17th again", x.enter(99, 999, 3, 15), FULL);
            x.back(1);
            due("room again", x.enter(99, 999, 3, 15), 15);
        });
    }

    private void unknownApplicant(KeptSeats x, int p) {
        due("mark " + p, x.mark(p, 1), UNKNOWN);
        due("ticket " + p, x.ticket(p, 1), UNKNOWN);
        due("kind " + p, x.kind(p, 1), UNKNOWN);
        due("groups " + p, x.groups(p, 1), UNKNOWN);
        due("ofPerson " + p, x.ofPerson(p, 0), UNKNOWN);
        due("seat " + p, x.seat(p), UNKNOWN);
        due("counted " + p, x.counted(p), UNKNOWN);
        due("handed " + p, x.handed(p), UNKNOWN);
        due("threshold " + p, x.threshold(p), UNKNOWN);
        due("claim " + p, x.claim(p), UNKNOWN);
        due("successor " + p, x.successor(p), UNKNOWN);
        due("passed " + p, x.passed(p), UNKNOWN);
        due("answer " + p, x.answer(p, 0), UNKNOWN);
        due("again " + p, x.again(p), UNKNOWN);
        due("note " + p, x.note(p, 0), UNKNOWN);
    }

    private void outsideArgument(KeptSeats x, int n) {
        due("enter mark " + n, x.enter(n, 0, 0, 0), OUTSIDE);
        due("enter ticket " + n, x.enter(0, n, 0, 0), OUTSIDE);
        due("enter kind " + n, x.enter(0, 0, n, 0), OUTSIDE);
        due("enter groups " + n, x.enter(0, 0, 0, n), OUTSIDE);
        due("mark " + n, x.mark(0, n), OUTSIDE);
        due("ticket " + n, x.ticket(0, n), OUTSIDE);
        due("kind " + n, x.kind(0, n), OUTSIDE);
        due("groups " + n, x.groups(0, n), OUTSIDE);
        due("ofPerson " + n, x.ofPerson(0, n), OUTSIDE);
        due("ranked " + n, x.ranked(n), OUTSIDE);
        due("above " + n, x.above(n), OUTSIDE);
        due("alike " + n, x.alike(n), OUTSIDE);
        due("seats " + n, x.seats(0, n), OUTSIDE);
        due("reserve " + n, x.reserve(0, 0, n), OUTSIDE);
        due("heir " + n, x.heir(1, n), OUTSIDE);
        due("manner " + n, x.manner(n), OUTSIDE);
        due("order " + n, x.order(n, 1, 2, 3), OUTSIDE);
        due("taken " + n, x.taken(0, n), OUTSIDE);
        due("ofKind " + n, x.ofKind(0, n), OUTSIDE);
        due("by " + n, x.by(n, 0), OUTSIDE);
        due("by 0, " + n, x.by(0, n), OUTSIDE);
        due("sure " + n, x.sure(n), OUTSIDE);
        due("nearest " + n, x.nearest(n), OUTSIDE);
        due("answer " + n, x.answer(0, n), OUTSIDE);
        due("note " + n, x.note(0, n), OUTSIDE);
        due("back " + n, x.back(n), OUTSIDE);
        due("many " + n, x.many(n), OUTSIDE);
    }

    private void orderOfErrors() {
        says("If several of them apply, the one that the method names first is returned.", () -> {
            KeptSeats x = full();
            due("enter: OUTSIDE, FULL", x.enter(100, 0, 0, 0), OUTSIDE);
            due("enter: OUTSIDE, FULL", x.enter(0, 1000, 0, 0), OUTSIDE);
            due("enter: OUTSIDE, FULL", x.enter(0, 0, 4, 0), OUTSIDE);
            due("enter: OUTSIDE, FULL", x.enter(0, 0, 0, 16), OUTSIDE);
            due("mark: UNKNOWN, OUTSIDE", x.mark(16, 100), UNKNOWN);
            due("ticket: UNKNOWN, OUTSIDE", x.ticket(16, 1000), UNKNOWN);
            due("kind: UNKNOWN, OUTSIDE", x.kind(16, 4), UNKNOWN);
            due("groups: UNKNOWN, OUTSIDE", x.groups(16, 16), UNKNOWN);
            due("ofPerson: UNKNOWN, OUTSIDE", x.ofPerson(16, 6), UNKNOWN);
            due("seats: UNKNOWN, OUTSIDE", x.seats(4, 10), UNKNOWN);
            due("reserve: UNKNOWN kind, OUTSIDE", x.reserve(4, 0, 6), UNKNOWN);
            due("reserve: UNKNOWN group, OUTSIDE", x.reserve(0, 4, 6), UNKNOWN);
            due("heir: UNKNOWN, OUTSIDE", x.heir(0, 4), UNKNOWN);
            due("taken: UNKNOWN, OUTSIDE", x.taken(4, 9), UNKNOWN);
            due("ofKind: UNKNOWN, OUTSIDE", x.ofKind(4, 6), UNKNOWN);
            due("answer: UNKNOWN, OUTSIDE", x.answer(16, 3), UNKNOWN);
            due("answer: OUTSIDE, STATE", x.answer(0, 3), OUTSIDE);
            due("answer: OUTSIDE, STATE", x.answer(0, -1), OUTSIDE);
            due("note: UNKNOWN, OUTSIDE", x.note(16, 3), UNKNOWN);
        });
    }

    private void refusedCalls() {
        says("A call that returns one of them changes nothing and is no act.", () -> {
            isNoAct(ActSentences::inUse, x -> {
                x.enter(100, 0, 0, 0);
                x.mark(0, 100);
                x.mark(3, 1);
                x.ticket(0, 1000);
                x.ticket(3, 1);
                x.kind(0, 4);
                x.kind(3, 1);
                x.groups(0, 16);
                x.groups(3, 1);
                x.seats(0, 10);
                x.seats(4, 1);
                x.reserve(0, 0, 6);
                x.reserve(0, 4, 1);
                x.reserve(4, 0, 1);
                x.heir(0, 1);
                x.heir(1, 4);
            });
            isNoAct(ActSentences::inUse, x -> {
                x.manner(3);
                x.order(0, 1, 2, 2);
                x.order(0, 1, 2, 4);
                x.taken(0, 9);
                x.ofKind(0, 6);
                x.by(3, 0);
                x.sure(2);
                x.threshold(2);
                x.claim(2);
                x.successor(2);
                x.passed(0);
                x.nearest(16);
                x.answer(0, 3);
                x.answer(3, 0);
                x.answer(2, 0);
                x.again(0);
                x.again(3);
                x.note(0, 3);
                x.back(-1);
                x.back(24);
                x.many(8);
            });
            KeptSeats x = full();
            x.enter(0, 0, 0, 0);
            due("a 17th is no act", x.many(4), 16);
            due("a 17th changes nothing", x.ofPerson(15, 0), 84);
        });
    }

    /** An applicant who is offered, one who is waiting and one who is frozen; a few other settings. */
    private static KeptSeats inUse() {
        KeptSeats x = withMarks(90, 80, 95);
        x.seats(0, 2);
        x.reserve(0, 1, 1);
        x.groups(2, 2);
        x.heir(1, 2);
        x.manner(2);
        x.order(1, 0, 2, 3);
        x.round();
        x.answer(2, 2);
        return x;
    }

    private void none() {
        says("NONE (-9) means that there is no such value;", () -> {
            KeptSeats x = withMarks(99, 99);
            x.seats(0, 1);
            due("ranked", x.ranked(2), -9);
            due("above", x.above(99), -9);
            due("heir", x.heir(1, -9), -9);
            due("seat", x.seat(1), -9);
            due("counted", x.counted(0), -9);
            due("taken", x.taken(0, 1), -9);
            due("ofKind 4", x.ofKind(1, 4), -9);
            due("threshold", x.threshold(1), -9);
            due("claim", x.claim(1), -9);
            due("nearest", x.nearest(0), -9);
            due("note", x.note(0, 0), -9);
            x.seats(0, 2);
            due("successor", x.successor(0), -9);
            x.round();
            due("note: no group", x.note(0, 1), -9);
        });
        says("it is returned only if no error applies.", () -> {
            KeptSeats x = withMarks(50);
            due("ranked 16: no such place, and out of range", x.ranked(16), OUTSIDE);
            due("above 100: no such mark, and out of range", x.above(100), OUTSIDE);
            due("seat of nobody", x.seat(1), UNKNOWN);
            due("counted of nobody", x.counted(1), UNKNOWN);
            due("taken in no kind", x.taken(4, 0), UNKNOWN);
            due("taken 9: no such place, and out of range", x.taken(0, 9), OUTSIDE);
            due("ofKind 4 of no kind", x.ofKind(4, 4), UNKNOWN);
            due("threshold of nobody", x.threshold(1), UNKNOWN);
            due("claim of nobody", x.claim(1), UNKNOWN);
            due("successor of nobody", x.successor(1), UNKNOWN);
            due("successor of one without a seat", x.successor(0), STATE);
            due("nearest 16: no such place, and out of range", x.nearest(16), OUTSIDE);
            due("note of nobody", x.note(1, 0), UNKNOWN);
            due("note 3 of one without a note", x.note(0, 3), OUTSIDE);
            due("note -1 of one without a note", x.note(0, -1), OUTSIDE);
            x.seats(0, 1);
            x.round();
            x.answer(0, 0);
            due("threshold of one who is out, without seats", x.threshold(0), STATE);
            due("claim of one who is out", x.claim(0), STATE);
            x.seats(0, 0);
            due("threshold of one who is out, without seats", x.threshold(0), STATE);
            due("claim of one who is out, without seats", x.claim(0), STATE);
        });
    }
}
