/** Promises 1 to 10: a new object, and the applicants. */
final class PersonSentences extends Part {
    PersonSentences(Sentences sentences) {
        super(sentences);
    }

    @Override
    void tell() {
        newObject();
        enter();
        enterErrors();
        mark();
        ticket();
        kind();
        groups();
        ofPerson();
        ranked();
        above();
        alike();
    }

    private void newObject() {
        in("Promise 1");
        says("Creates an office without applicants and seats.", () -> {
            KeptSeats used = full();
            used.seats(0, 9);
            KeptSeats x = new KeptSeats();
            for (int what = 0; what < 8; what++) {
                due("many " + what, x.many(what), 0);
            }
            due("no applicant 0", x.ofPerson(0, 0), UNKNOWN);
            for (int kind = 0; kind < 4; kind++) {
                due("free seats of " + kind, x.ofKind(kind, 0), 0);
                due("taken in " + kind, x.ofKind(kind, 1), 0);
            }
            due("nothing to take back", x.back(1), OUTSIDE);
            due("the first applicant", x.enter(0, 0, 0, 0), 0);
            due("without seats, without a seat", x.seat(0), NONE);
            due("another object keeps its own", used.many(0), 16);
        });
    }

    private void enter() {
        in("Promise 2");
        says("Enters an applicant, who is waiting.", () -> {
            KeptSeats x = new KeptSeats();
            x.enter(12, 345, 2, 10);
            due("one more", x.many(0), 1);
            int[] values = {12, 345, 2, 10, WAITING, 0};
            for (int what = 0; what < 6; what++) {
                due("property " + what, x.ofPerson(0, what), values[what]);
            }
            due("without a note", x.note(0, 0), NONE);
            due("active", x.many(1), 1);
            x.seats(2, 1);
            x.round();
            x.answer(0, 2);
            x.back(4);
            due("after one who was frozen was taken back", x.enter(1, 1, 1, 1), 0);
            due("waiting", x.ofPerson(0, 4), WAITING);
            due("without a note", x.note(0, 0), NONE);
        });
        says("This is an act.", () -> {
            isAct(() -> withMarks(50), x -> x.enter(60, 1, 1, 1));
            isAct(KeptSeats::new, x -> x.enter(0, 0, 0, 0));
        });
        says("`mark`: 0 to 99", () -> {
            for (int v = 0; v < 100; v++) {
                KeptSeats x = new KeptSeats();
                due("enter", x.enter(v, 1, 1, 1), 0);
                due("mark " + v, x.ofPerson(0, 0), v);
            }
            due("-1", new KeptSeats().enter(-1, 0, 0, 0), OUTSIDE);
            due("100", new KeptSeats().enter(100, 0, 0, 0), OUTSIDE);
        });
        says("`ticket`: 0 to 999", () -> {
            for (int v = 0; v < 1000; v += 37) {
                KeptSeats x = new KeptSeats();
                due("enter", x.enter(1, v, 1, 1), 0);
                due("ticket " + v, x.ofPerson(0, 1), v);
            }
            due("-1", new KeptSeats().enter(0, -1, 0, 0), OUTSIDE);
            due("1000", new KeptSeats().enter(0, 1000, 0, 0), OUTSIDE);
            due("999", new KeptSeats().enter(0, 999, 0, 0), 0);
        });
        says("`kind`: 0 to 3", () -> {
            KeptSeats x = new KeptSeats();
            for (int v = 0; v < 4; v++) {
                due("enter", x.enter(1, 1, v, 1), v);
                due("kind " + v, x.ofPerson(v, 2), v);
            }
            due("-1", x.enter(0, 0, -1, 0), OUTSIDE);
            due("4", x.enter(0, 0, 4, 0), OUTSIDE);
        });
        says("`groups`: the set of groups, 0 to 15", () -> {
            KeptSeats x = new KeptSeats();
            for (int v = 0; v < 16; v++) {
                due("enter", x.enter(1, 1, 1, v), v);
                due("groups " + v, x.ofPerson(v, 3), v);
            }
            x.back(1);
            due("-1", x.enter(0, 0, 0, -1), OUTSIDE);
            due("16", x.enter(0, 0, 0, 16), OUTSIDE);
        });
    }

    private void enterErrors() {
        says("Returns the number of the applicant;", () -> {
            KeptSeats x = new KeptSeats();
            for (int p = 0; p < 16; p++) {
                due("enter", x.enter(99 - p, 0, 0, 0), p);
            }
            x.back(3);
            due("after three were taken back", x.enter(0, 0, 0, 0), 13);
        });
        says("OUTSIDE if an argument is out of range;", () -> {
            KeptSeats x = withMarks(50);
            due("mark", x.enter(-1, 0, 0, 0), OUTSIDE);
            due("ticket", x.enter(0, -1, 0, 0), OUTSIDE);
            due("kind", x.enter(0, 0, -1, 0), OUTSIDE);
            due("groups", x.enter(0, 0, 0, -1), OUTSIDE);
            due("mark", x.enter(HIGHEST, 0, 0, 0), OUTSIDE);
            due("ticket", x.enter(0, HIGHEST, 0, 0), OUTSIDE);
            due("kind", x.enter(0, 0, HIGHEST, 0), OUTSIDE);
            due("groups", x.enter(0, 0, 0, HIGHEST), OUTSIDE);
            due("all", x.enter(LOWEST, LOWEST, LOWEST, LOWEST), OUTSIDE);
            due("nobody is entered", x.many(0), 1);
        });
        says("FULL if there are 16 applicants.", () -> {
            KeptSeats x = full();
            due("a 17th", x.enter(0, 0, 0, 0), FULL);
            x.back(1);
            due("a 16th", x.enter(0, 0, 0, 0), 15);
            due("a 17th", x.enter(0, 0, 0, 0), FULL);
            x.seats(0, 9);
            x.round();
            x.answer(0, 0);
            due("one is out, but there are 16", x.enter(0, 0, 0, 0), FULL);
        });
    }

    private void mark() {
        in("Promise 3");
        says("Sets the mark of an applicant.", () -> {
            KeptSeats x = withMarks(50, 40);
            x.mark(1, 60);
            due("is set", x.ofPerson(1, 0), 60);
            due("another stays", x.ofPerson(0, 0), 50);
            due("ranked anew", x.ranked(0), 1);
            for (int p = 0; p < 5; p++) {
                KeptSeats y = eachStanding();
                due("of any standing", y.mark(p, 7), 50);
                due("is set", y.ofPerson(p, 0), 7);
                due("the standing stays", y.ofPerson(p, 4), p);
            }
        });
        says("This is an act.", () -> {
            isAct(PersonSentences::seated, x -> x.mark(0, 60));
            isAct(PersonSentences::seated, x -> x.mark(0, 20));
        });
        says("`p`: number of an applicant", () -> {
            KeptSeats x = full();
            for (int p = 0; p < 16; p++) {
                due("mark of " + p, x.mark(p, p), 99 - p);
            }
            for (int p = 0; p < 16; p++) {
                due("is set", x.ofPerson(p, 0), p);
            }
        });
        says("`v`: the new mark, 0 to 99", () -> {
            KeptSeats x = withMarks(50);
            for (int v = 0; v < 100; v++) {
                due("mark " + v, x.mark(0, v), v == 0 ? 50 : v - 1);
            }
        });
        says("Returns the previous mark;", () -> {
            KeptSeats x = withMarks(50);
            due("50 before", x.mark(0, 99), 50);
            due("99 before", x.mark(0, 99), 99);
            due("99 before", x.mark(0, 0), 99);
            due("0 before", x.mark(0, 1), 0);
        });
        says("UNKNOWN if there is no such applicant;", () -> {
            KeptSeats x = withMarks(50);
            due("1", x.mark(1, 5), UNKNOWN);
            due("-1", x.mark(-1, 5), UNKNOWN);
            due("16", full().mark(16, 5), UNKNOWN);
            due("nobody", new KeptSeats().mark(0, 5), UNKNOWN);
            x.back(1);
            due("one who was taken back", x.mark(0, 5), UNKNOWN);
        });
        says("OUTSIDE if v is out of range.", () -> {
            KeptSeats x = withMarks(50);
            due("-1", x.mark(0, -1), OUTSIDE);
            due("100", x.mark(0, 100), OUTSIDE);
            due("far out", x.mark(0, LOWEST), OUTSIDE);
            due("far out", x.mark(0, HIGHEST), OUTSIDE);
            due("stays", x.ofPerson(0, 0), 50);
        });
    }

    /** An applicant with a seat, and one behind without. */
    private static KeptSeats seated() {
        KeptSeats x = new KeptSeats();
        x.enter(50, 5, 1, 1);
        x.enter(40, 4, 1, 2);
        x.seats(1, 1);
        x.reserve(1, 0, 1);
        return x;
    }

    private void ticket() {
        in("Promise 4");
        says("Sets the ticket of an applicant.", () -> {
            KeptSeats x = withMarks(50, 50);
            x.ticket(0, 60);
            due("is set", x.ofPerson(0, 1), 60);
            due("another stays", x.ofPerson(1, 1), 0);
            due("ranked anew", x.ranked(0), 1);
            for (int p = 0; p < 5; p++) {
                KeptSeats y = eachStanding();
                due("of any standing", y.ticket(p, 7), p == 0 ? 9 : 0);
                due("is set", y.ofPerson(p, 1), 7);
            }
        });
        says("This is an act.", () -> isAct(PersonSentences::seated, x -> x.ticket(0, 60)));
        says("`p`: number of an applicant", () -> {
            KeptSeats x = full();
            for (int p = 0; p < 16; p++) {
                due("ticket of " + p, x.ticket(p, 100 + p), p);
            }
            for (int p = 0; p < 16; p++) {
                due("is set", x.ofPerson(p, 1), 100 + p);
            }
        });
        says("`v`: the new ticket, 0 to 999", () -> {
            KeptSeats x = withMarks(50);
            due("999", x.ticket(0, 999), 0);
            due("0", x.ticket(0, 0), 999);
            for (int v = 1; v < 999; v += 37) {
                x.ticket(0, v);
                due("is set", x.ofPerson(0, 1), v);
            }
        });
        says("Returns the previous ticket;", () -> {
            KeptSeats x = new KeptSeats();
            x.enter(50, 17, 0, 0);
            due("17 before", x.ticket(0, 999), 17);
            due("999 before", x.ticket(0, 999), 999);
            due("999 before", x.ticket(0, 1), 999);
        });
        says("UNKNOWN if there is no such applicant;", () -> {
            KeptSeats x = withMarks(50);
            due("1", x.ticket(1, 5), UNKNOWN);
            due("-1", x.ticket(-1, 5), UNKNOWN);
            due("16", full().ticket(16, 5), UNKNOWN);
            due("nobody", new KeptSeats().ticket(0, 5), UNKNOWN);
        });
        says("OUTSIDE if v is out of range.", () -> {
            KeptSeats x = withMarks(50);
            due("-1", x.ticket(0, -1), OUTSIDE);
            due("1000", x.ticket(0, 1000), OUTSIDE);
            due("far out", x.ticket(0, LOWEST), OUTSIDE);
            due("far out", x.ticket(0, HIGHEST), OUTSIDE);
            due("stays", x.ofPerson(0, 1), 0);
        });
    }

    private void kind() {
        in("Promise 5");
        says("Sets the kind of an applicant.", () -> {
            KeptSeats x = withKinds(1, 1);
            x.seats(2, 2);
            x.kind(1, 2);
            due("is set", x.ofPerson(1, 2), 2);
            due("another stays", x.ofPerson(0, 2), 1);
            due("a candidate now", x.seat(1), 2);
            due("no candidate", x.seat(0), NONE);
            for (int p = 0; p < 5; p++) {
                KeptSeats y = eachStanding();
                due("of any standing", y.kind(p, 3), 0);
                due("is set", y.ofPerson(p, 2), 3);
            }
        });
        says("This is an act.", () -> isAct(PersonSentences::seated, x -> x.kind(0, 2)));
        says("`p`: number of an applicant", () -> {
            KeptSeats x = full();
            for (int p = 0; p < 16; p++) {
                due("kind of " + p, x.kind(p, 3 - p % 4), p % 4);
            }
            for (int p = 0; p < 16; p++) {
                due("is set", x.ofPerson(p, 2), 3 - p % 4);
            }
        });
        says("`v`: the new kind, 0 to 3", () -> {
            KeptSeats x = withMarks(50);
            for (int v = 3; v >= 0; v--) {
                due("kind " + v, x.kind(0, v), v == 3 ? 0 : v + 1);
                due("is set", x.ofPerson(0, 2), v);
            }
        });
        says("Returns the previous kind;", () -> {
            KeptSeats x = withKinds(2);
            due("2 before", x.kind(0, 3), 2);
            due("3 before", x.kind(0, 3), 3);
            due("3 before", x.kind(0, 0), 3);
            due("0 before", x.kind(0, 1), 0);
        });
        says("UNKNOWN if there is no such applicant;", () -> {
            KeptSeats x = withMarks(50);
            due("1", x.kind(1, 1), UNKNOWN);
            due("-1", x.kind(-1, 1), UNKNOWN);
            due("16", full().kind(16, 1), UNKNOWN);
            due("nobody", new KeptSeats().kind(0, 1), UNKNOWN);
        });
        says("OUTSIDE if v is out of range.", () -> {
            KeptSeats x = withKinds(1);
            due("-1", x.kind(0, -1), OUTSIDE);
            due("4", x.kind(0, 4), OUTSIDE);
            due("-9", x.kind(0, NONE), OUTSIDE);
            due("far out", x.kind(0, LOWEST), OUTSIDE);
            due("far out", x.kind(0, HIGHEST), OUTSIDE);
            due("stays", x.ofPerson(0, 2), 1);
        });
    }

    private void groups() {
        in("Promise 6");
        says("Sets the groups of an applicant.", () -> {
            KeptSeats x = withGroups(1, 1);
            x.seats(0, 2);
            x.reserve(0, 3, 1);
            x.groups(1, 8);
            due("is set", x.ofPerson(1, 3), 8);
            due("another stays", x.ofPerson(0, 3), 1);
            due("is counted now", x.counted(1), 3);
            for (int p = 0; p < 5; p++) {
                KeptSeats y = eachStanding();
                due("of any standing", y.groups(p, 15), 0);
                due("is set", y.ofPerson(p, 3), 15);
            }
        });
        says("This is an act.", () -> isAct(PersonSentences::seated, x -> x.groups(0, 14)));
        says("`p`: number of an applicant", () -> {
            KeptSeats x = full();
            for (int p = 0; p < 16; p++) {
                due("groups of " + p, x.groups(p, 15 - p), p);
            }
            for (int p = 0; p < 16; p++) {
                due("is set", x.ofPerson(p, 3), 15 - p);
            }
        });
        says("`set`: the new set of groups, 0 to 15", () -> {
            KeptSeats x = withMarks(50);
            for (int set = 15; set >= 0; set--) {
                due("set " + set, x.groups(0, set), set == 15 ? 0 : set + 1);
                due("is set", x.ofPerson(0, 3), set);
            }
        });
        says("Returns the previous set;", () -> {
            KeptSeats x = withGroups(9);
            due("9 before", x.groups(0, 15), 9);
            due("15 before", x.groups(0, 15), 15);
            due("15 before", x.groups(0, 0), 15);
            due("0 before", x.groups(0, 1), 0);
        });
        says("UNKNOWN if there is no such applicant;", () -> {
            KeptSeats x = withMarks(50);
            due("1", x.groups(1, 1), UNKNOWN);
            due("-1", x.groups(-1, 1), UNKNOWN);
            due("16", full().groups(16, 1), UNKNOWN);
            due("nobody", new KeptSeats().groups(0, 1), UNKNOWN);
        });
        says("OUTSIDE if set is out of range.", () -> {
            KeptSeats x = withGroups(5);
            due("-1", x.groups(0, -1), OUTSIDE);
            due("16", x.groups(0, 16), OUTSIDE);
            due("far out", x.groups(0, LOWEST), OUTSIDE);
            due("far out", x.groups(0, HIGHEST), OUTSIDE);
            due("stays", x.ofPerson(0, 3), 5);
        });
    }

    private void ofPerson() {
        in("Promise 7");
        says("Returns a property of an applicant.", () ->
            isNoAct(PersonSentences::seated, x -> {
                for (int what = 0; what < 6; what++) {
                    holds("a property", x.ofPerson(1, what) >= 0);
                }
            }));
        says("`p`: number of an applicant", () -> {
            KeptSeats x = full();
            for (int p = 0; p < 16; p++) {
                due("mark of " + p, x.ofPerson(p, 0), 99 - p);
                due("ticket of " + p, x.ofPerson(p, 1), p);
            }
        });
        says("`what`: 0: mark;", () -> due("mark", oneOf(71, 0, 0, 0).ofPerson(0, 0), 71));
        says("1: ticket;", () -> due("ticket", oneOf(0, 712, 0, 0).ofPerson(0, 1), 712));
        says("2: kind;", () -> due("kind", oneOf(0, 0, 3, 0).ofPerson(0, 2), 3));
        says("3: set of groups;", () -> due("groups", oneOf(0, 0, 0, 13).ofPerson(0, 3), 13));
        says("4: standing;", () -> {
            KeptSeats x = eachStanding();
            for (int p = 0; p < 5; p++) {
                due("standing of " + p, x.ofPerson(p, 4), p);
            }
        });
        says("5: how many applicants, of any standing, are ranked ahead", () -> {
            KeptSeats x = eachStanding();
            int[] ahead = {4, 0, 1, 2, 3};
            for (int p = 0; p < 5; p++) {
                due("ahead of one of standing " + p, x.ofPerson(p, 5), ahead[p]);
            }
            x.mark(3, 99);
            due("a frozen one ahead of all", x.ofPerson(3, 5), 0);
            due("is counted", x.ofPerson(1, 5), 1);
            x.mark(4, 98);
            due("one who is out is counted", x.ofPerson(1, 5), 2);
            due("the only one", withMarks(0).ofPerson(0, 5), 0);
            due("the last of 16", full().ofPerson(15, 5), 15);
        });
        says("Returns the property;", () -> {
            KeptSeats x = oneOf(99, 999, 3, 15);
            int[] values = {99, 999, 3, 15, WAITING, 0};
            for (int what = 0; what < 6; what++) {
                due("property " + what, x.ofPerson(0, what), values[what]);
            }
        });
        says("UNKNOWN if there is no such applicant;", () -> {
            due("1", withMarks(50).ofPerson(1, 0), UNKNOWN);
            due("-1", withMarks(50).ofPerson(-1, 0), UNKNOWN);
            due("16", full().ofPerson(16, 5), UNKNOWN);
            due("nobody", new KeptSeats().ofPerson(0, 4), UNKNOWN);
        });
        says("OUTSIDE if what is not 0 to 5.", () -> {
            KeptSeats x = withMarks(50);
            due("-1", x.ofPerson(0, -1), OUTSIDE);
            due("6", x.ofPerson(0, 6), OUTSIDE);
            due("far out", x.ofPerson(0, LOWEST), OUTSIDE);
            due("far out", x.ofPerson(0, HIGHEST), OUTSIDE);
        });
    }

    private static KeptSeats oneOf(int mark, int ticket, int kind, int groups) {
        KeptSeats x = new KeptSeats();
        x.enter(mark, ticket, kind, groups);
        return x;
    }

    private void ranked() {
        in("Promise 8");
        says("Returns the applicant at a place of the ranking of all applicants, of any standing.", () -> {
            KeptSeats x = eachStanding();
            int[] order = {1, 2, 3, 4, 0};
            for (int k = 0; k < 5; k++) {
                due("place " + k, x.ranked(k), order[k]);
            }
            x.mark(4, 99);
            x.mark(3, 98);
            due("one who is out", x.ranked(0), 4);
            due("one who is frozen", x.ranked(1), 3);
            due("no act", x.many(4), 13);
        });
        says("`k`: the place, 0 to 15, 0 for the best ranked one", () -> {
            KeptSeats x = full();
            for (int k = 0; k < 16; k++) {
                due("place " + k, x.ranked(k), k);
            }
            x.mark(15, 99);
            x.ticket(0, 16);
            due("the best", x.ranked(0), 15);
            due("the next", x.ranked(1), 0);
            due("the worst", x.ranked(15), 14);
        });
        says("Returns the number of the applicant;", () -> {
            KeptSeats x = withMarks(10, 30, 20);
            due("best", x.ranked(0), 1);
            due("second", x.ranked(1), 2);
            due("third", x.ranked(2), 0);
        });
        says("NONE if there is no such place;", () -> {
            KeptSeats x = withMarks(10, 30, 20);
            for (int k = 3; k < 16; k++) {
                due("place " + k + " of three", x.ranked(k), NONE);
            }
            due("nobody", new KeptSeats().ranked(0), NONE);
            x.back(1);
            due("one was taken back", x.ranked(2), NONE);
        });
        says("OUTSIDE if k is out of range.", () -> {
            due("16", full().ranked(16), OUTSIDE);
            due("-1", full().ranked(-1), OUTSIDE);
            due("16 without applicants", new KeptSeats().ranked(16), OUTSIDE);
            due("far out", full().ranked(LOWEST), OUTSIDE);
            due("far out", full().ranked(HIGHEST), OUTSIDE);
        });
    }

    private void above() {
        in("Promise 9");
        says("Returns the smallest mark of an applicant, of any standing, that is greater than v.", () -> {
            KeptSeats x = eachStanding();
            for (int p = 0; p < 5; p++) {
                x.mark(p, 60 + p);
            }
            for (int v = 59; v < 64; v++) {
                due("above " + v, x.above(v), v + 1);
            }
            KeptSeats y = withMarks(30, 10, 20, 30);
            due("the smallest of three", y.above(5), 10);
            due("greater, not equal", y.above(10), 20);
            due("between", y.above(25), 30);
        });
        says("`v`: 0 to 99", () -> {
            KeptSeats x = withMarks(0, 99);
            for (int v = 0; v < 99; v++) {
                due("above " + v, x.above(v), 99);
            }
            due("above 99", x.above(99), NONE);
        });
        says("Returns this mark;", () -> {
            due("1 above 0", withMarks(1).above(0), 1);
            due("99 above 98", withMarks(99).above(98), 99);
        });
        says("NONE if there is none;", () -> {
            due("equal", withMarks(50).above(50), NONE);
            due("smaller", withMarks(50).above(51), NONE);
            due("99", withMarks(99).above(99), NONE);
            due("0 is not above 0", withMarks(0).above(0), NONE);
            due("nobody", new KeptSeats().above(0), NONE);
        });
        says("OUTSIDE if v is out of range.", () -> {
            KeptSeats x = withMarks(50);
            due("-1", x.above(-1), OUTSIDE);
            due("100", x.above(100), OUTSIDE);
            due("far out", x.above(LOWEST), OUTSIDE);
            due("far out", x.above(HIGHEST), OUTSIDE);
        });
    }

    private void alike() {
        in("Promise 10");
        says("Counts the applicants, of any standing, with a mark.", () -> {
            KeptSeats x = eachStanding();
            due("all five", x.alike(50), 5);
            x.mark(4, 51);
            due("one who is out", x.alike(51), 1);
            due("the others", x.alike(50), 4);
            x.mark(3, 51);
            due("and one who is frozen", x.alike(51), 2);
        });
        says("`v`: the mark, 0 to 99", () -> {
            KeptSeats x = withMarks(0, 99, 0);
            due("0", x.alike(0), 2);
            for (int v = 1; v < 99; v++) {
                due("alike " + v, x.alike(v), 0);
            }
            due("99", x.alike(99), 1);
        });
        says("Returns their number;", () -> {
            KeptSeats x = new KeptSeats();
            for (int p = 0; p < 16; p++) {
                due("so many", x.alike(7), p);
                x.enter(7, p, p % 4, p);
            }
            due("all 16", x.alike(7), 16);
        });
        says("OUTSIDE if v is out of range.", () -> {
            KeptSeats x = withMarks(50);
            due("-1", x.alike(-1), OUTSIDE);
            due("100", x.alike(100), OUTSIDE);
            due("far out", x.alike(LOWEST), OUTSIDE);
            due("far out", x.alike(HIGHEST), OUTSIDE);
        });
    }
}
