/** Promises 16 to 23: the choice. */
final class ChoiceSentences extends Part {
    ChoiceSentences(Sentences sentences) {
        super(sentences);
    }

    @Override
    void tell() {
        seat();
        counted();
        handed();
        taken();
        ofKind();
        ofKindGroups();
        ways();
        by();
        byProperties();
        sure();
    }

    private void seat() {
        in("Promise 16");
        says("Returns the kind of the seat that an applicant has in the choice.", () -> {
            KeptSeats x = withKinds(0, 1, 2, 3, 0);
            x.seats(0, 1);
            x.seats(1, 1);
            x.seats(2, 2);
            x.seats(3, 1);
            x.heir(2, 0);
            int[] kinds = {0, 1, 2, 3, 2};
            for (int p = 0; p < 5; p++) {
                due("seat of " + p, x.seat(p), kinds[p]);
            }
            due("no act", x.many(4), 10);
        });
        says("`p`: number of an applicant", () -> {
            KeptSeats x = full();
            x.seats(0, 8);
            for (int p = 0; p < 16; p++) {
                due("seat of " + p, x.seat(p), p < 8 ? 0 : NONE);
            }
        });
        says("Returns the kind;", () -> {
            for (int kind = 0; kind < 4; kind++) {
                KeptSeats x = withKinds(kind);
                x.seats(kind, 1);
                due("kind " + kind, x.seat(0), kind);
            }
        });
        says("NONE if the applicant is not in the choice;", () -> {
            KeptSeats x = withMarks(90, 80);
            due("no seats", x.seat(0), NONE);
            x.seats(0, 1);
            due("no seat left", x.seat(1), NONE);
            x.round();
            due("offered, and in it", x.seat(0), 0);
            x.answer(0, 2);
            due("frozen", x.seat(0), NONE);
            x.back(1);
            x.answer(0, 0);
            due("out", x.seat(0), NONE);
            due("the next has it", x.seat(1), 0);
        });
        says("UNKNOWN if there is no such applicant.", () -> {
            due("1", withMarks(50).seat(1), UNKNOWN);
            due("-1", withMarks(50).seat(-1), UNKNOWN);
            due("16", full().seat(16), UNKNOWN);
            due("nobody", new KeptSeats().seat(0), UNKNOWN);
            due("far out", full().seat(HIGHEST), UNKNOWN);
        });
    }

    private void counted() {
        in("Promise 17");
        says("Returns the group to which an applicant is counted in the choice.", () -> {
            KeptSeats x = withGroups(9, 8, 6);
            x.seats(0, 3);
            for (int group = 0; group < 4; group++) {
                x.reserve(0, group, 1);
            }
            int[] groups = {0, 3, 1};
            for (int p = 0; p < 3; p++) {
                due("group of " + p, x.counted(p), groups[p]);
            }
            due("no act", x.many(4), 8);
        });
        says("`p`: number of an applicant", () -> {
            KeptSeats x = new KeptSeats();
            for (int p = 0; p < 16; p++) {
                x.enter(99 - p, 0, p % 4, 1 << p % 4);
            }
            for (int kind = 0; kind < 4; kind++) {
                x.seats(kind, 4);
                x.reserve(kind, kind, 5);
            }
            x.order(1, 2, 3, 0);
            for (int p = 0; p < 16; p++) {
                due("group of " + p, x.counted(p), p % 4);
            }
        });
        says("Returns the group;", () -> {
            for (int group = 0; group < 4; group++) {
                KeptSeats x = withGroups(15);
                x.seats(0, 1);
                x.reserve(0, group, 1);
                for (int rule = 0; rule < 3; rule++) {
                    x.manner(rule);
                    due("group " + group + " by rule " + rule, x.counted(0), group);
                }
            }
        });
        says("NONE if the applicant is not counted, or not in the choice;", () -> {
            KeptSeats x = withGroups(1, 1, 1);
            x.seats(0, 2);
            x.reserve(0, 0, 1);
            due("counted", x.counted(0), 0);
            due("taken, not counted", x.counted(1), NONE);
            due("not in the choice", x.counted(2), NONE);
            x.round();
            x.answer(0, 2);
            due("frozen, with a group in its note", x.counted(0), NONE);
            KeptSeats y = withGroups(1);
            y.kind(0, 2);
            y.seats(1, 1);
            y.reserve(1, 0, 1);
            y.heir(1, 2);
            due("with a seat that was passed on", y.counted(0), NONE);
        });
        says("UNKNOWN if there is no such applicant.", () -> {
            due("1", withMarks(50).counted(1), UNKNOWN);
            due("-1", withMarks(50).counted(-1), UNKNOWN);
            due("16", full().counted(16), UNKNOWN);
            due("nobody", new KeptSeats().counted(0), UNKNOWN);
        });
    }

    private void handed() {
        in("Promise 18");
        says("Tells whether an applicant has a seat in the choice that was passed on.", () -> {
            KeptSeats x = withKinds(2, 1, 2);
            x.seats(1, 2);
            x.heir(1, 2);
            due("passed on", x.handed(0), 1);
            due("taken", x.handed(1), 0);
            due("without a seat", x.handed(2), 0);
            due("no act", x.many(4), 5);
        });
        says("`p`: number of an applicant", () -> {
            KeptSeats x = new KeptSeats();
            for (int p = 0; p < 16; p++) {
                x.enter(99 - p, 0, 2, 0);
            }
            x.seats(1, 9);
            x.heir(1, 2);
            for (int p = 0; p < 16; p++) {
                due("handed " + p, x.handed(p), p < 9 ? 1 : 0);
            }
        });
        says("Returns 1 if so, else 0;", () -> {
            KeptSeats x = withKinds(3);
            due("without a seat", x.handed(0), 0);
            x.seats(3, 1);
            due("taken", x.handed(0), 0);
            x.seats(3, 0);
            x.seats(2, 1);
            x.heir(2, 3);
            due("passed on", x.handed(0), 1);
            x.round();
            x.answer(0, 2);
            due("frozen, not in the choice", x.handed(0), 0);
        });
        says("UNKNOWN if there is no such applicant.", () -> {
            due("1", withMarks(50).handed(1), UNKNOWN);
            due("-1", withMarks(50).handed(-1), UNKNOWN);
            due("16", full().handed(16), UNKNOWN);
            due("nobody", new KeptSeats().handed(0), UNKNOWN);
        });
    }

    private void taken() {
        in("Promise 19");
        says("Returns one of the applicants who are taken in a kind in the choice.", () -> {
            KeptSeats x = withKinds(2, 1, 2, 1, 1);
            x.seats(0, 1);
            x.seats(1, 1);
            x.seats(2, 2);
            x.heir(2, 1);
            due("in kind 0", x.taken(0, 0), 0);
            due("in kind 1", x.taken(1, 0), 1);
            due("in kind 2", x.taken(2, 0), 2);
            due("not one to whom a seat was passed on", x.taken(2, 1), NONE);
            due("no act", x.many(4), 9);
        });
        says("`kind`: 0 to 3", () -> {
            KeptSeats x = withKinds(1, 2, 3, 0);
            x.order(1, 2, 3, 0);
            for (int kind = 0; kind < 4; kind++) {
                x.seats(kind, 1);
            }
            int[] people = {3, 0, 1, 2};
            for (int kind = 0; kind < 4; kind++) {
                due("kind " + kind, x.taken(kind, 0), people[kind]);
            }
        });
        says("`k`: place among them by rank, 0 to 8", () -> {
            for (int rule = 0; rule < 3; rule++) {
                KeptSeats x = new KeptSeats();
                for (int p = 0; p < 9; p++) {
                    x.enter(10 + p, 0, 0, p % 3 == 0 ? 1 : 0);
                }
                x.seats(0, 9);
                x.reserve(0, 0, 3);
                x.manner(rule);
                for (int k = 0; k < 9; k++) {
                    due("place " + k + " by rule " + rule, x.taken(0, k), 8 - k);
                }
            }
        });
        says("Returns the number of the applicant;", () -> {
            KeptSeats x = withMarks(10, 30, 20);
            x.seats(0, 2);
            due("the best", x.taken(0, 0), 1);
            due("the next", x.taken(0, 1), 2);
        });
        says("NONE if there is no such place;", () -> {
            KeptSeats x = withMarks(10, 30, 20);
            due("no seats", x.taken(0, 0), NONE);
            x.seats(0, 2);
            for (int k = 2; k < 9; k++) {
                due("place " + k + " of two", x.taken(0, k), NONE);
            }
            due("a kind without seats", x.taken(3, 0), NONE);
            due("nobody", new KeptSeats().taken(0, 0), NONE);
        });
        says("UNKNOWN if there is no such kind;", () -> {
            KeptSeats x = withMarks(10);
            due("-1", x.taken(-1, 0), UNKNOWN);
            due("4", x.taken(4, 0), UNKNOWN);
            due("-9", x.taken(NONE, 0), UNKNOWN);
            due("far out", x.taken(HIGHEST, 0), UNKNOWN);
        });
        says("OUTSIDE if k is out of range.", () -> {
            KeptSeats x = full();
            x.seats(0, 9);
            due("-1", x.taken(0, -1), OUTSIDE);
            due("9", x.taken(0, 9), OUTSIDE);
            due("15", x.taken(0, 15), OUTSIDE);
            due("far out", x.taken(0, LOWEST), OUTSIDE);
            due("far out", x.taken(0, HIGHEST), OUTSIDE);
        });
    }

    private void ofKind() {
        in("Promise 20");
        says("Returns a property of a kind, with regard to the choice.", () ->
            isNoAct(Part::threeForTwo, x -> {
                due("of the choice by rule 0", x.ofKind(0, 4), 70);
                x.manner(2);
                due("of the choice by rule 2", x.ofKind(0, 4), 80);
                x.back(1);
            }));
        says("`kind`: 0 to 3", () -> {
            KeptSeats x = withKinds(0, 1, 2, 3);
            for (int kind = 0; kind < 4; kind++) {
                x.seats(kind, kind + 1);
            }
            for (int kind = 0; kind < 4; kind++) {
                due("free seats of " + kind, x.ofKind(kind, 0), kind + 1);
                due("taken in " + kind, x.ofKind(kind, 1), 1);
                due("nobody has of " + kind, x.ofKind(kind, 3), kind);
            }
        });
        says("`what`: 0: its free seats;", () -> {
            KeptSeats x = withMarks(90, 80);
            due("none", x.ofKind(0, 0), 0);
            x.seats(0, 9);
            due("nine", x.ofKind(0, 0), 9);
            x.round();
            x.answer(0, 2);
            due("one frozen", x.ofKind(0, 0), 8);
            x.seats(0, 0);
            due("at least 0", x.ofKind(0, 0), 0);
        });
        says("1: how many applicants are taken in it;", () -> {
            KeptSeats x = withKinds(2, 1, 1, 3);
            x.seats(1, 4);
            due("two of kind 1", x.ofKind(1, 1), 2);
            x.heir(1, 0);
            due("not those to whom seats were passed on", x.ofKind(1, 1), 2);
            x.seats(1, 1);
            due("one", x.ofKind(1, 1), 1);
            x.seats(1, 0);
            due("nobody", x.ofKind(1, 1), 0);
            KeptSeats y = full();
            y.seats(0, 9);
            due("nine", y.ofKind(0, 1), 9);
        });
        says("2: how many of these are counted;", () -> {
            KeptSeats x = withGroups(3, 1, 2, 0, 1);
            x.seats(0, 5);
            due("nobody", x.ofKind(0, 2), 0);
            x.reserve(0, 0, 2);
            due("two", x.ofKind(0, 2), 2);
            x.reserve(0, 1, 2);
            due("four", x.ofKind(0, 2), 4);
            x.manner(1);
            x.reserve(0, 0, 1);
            due("by rule 1: 0 to group 0, 2 to group 1", x.ofKind(0, 2), 2);
            due("less than the fill", x.ofKind(0, 5), 3);
            due("in another kind", x.ofKind(1, 2), 0);
        });
        says("3: how many of its free seats nobody has (passed on or not);", () -> {
            KeptSeats x = withKinds(1, 2, 2);
            due("no seats", x.ofKind(1, 3), 0);
            x.seats(1, 9);
            due("one taken", x.ofKind(1, 3), 8);
            x.heir(1, 2);
            due("one taken and two passed on", x.ofKind(1, 3), 6);
            x.seats(1, 2);
            due("one taken and one passed on", x.ofKind(1, 3), 0);
            x.seats(0, 9);
            due("of kind 0", x.ofKind(0, 3), 6);
            due("and so all of kind 1", x.ofKind(1, 3), 2);
            x.round();
            x.answer(0, 2);
            due("a frozen one has a seat that is not free", x.ofKind(0, 3), 6);
        });
        says("4: the mark of the worst ranked applicant who is taken in it, NONE if there is none;", () -> {
            KeptSeats x = new KeptSeats();
            x.enter(50, 0, 1, 0);
            x.enter(70, 0, 1, 1);
            x.enter(0, 0, 1, 1);
            x.enter(99, 0, 2, 0);
            x.seats(1, 2);
            due("50 and 70", x.ofKind(1, 4), 50);
            x.reserve(1, 0, 2);
            due("70 and 0", x.ofKind(1, 4), 0);
            x.seats(1, 1);
            due("70", x.ofKind(1, 4), 70);
            x.seats(1, 0);
            due("nobody", x.ofKind(1, 4), NONE);
            x.seats(3, 2);
            x.heir(3, 0);
            due("only passed on", x.ofKind(3, 4), NONE);
            x.seats(1, 3);
            x.heir(1, 2);
            x.kind(0, 2);
            due("70 and 0", x.ofKind(1, 4), 0);
            x.mark(2, 80);
            due("70 and 80", x.ofKind(1, 4), 70);
            x.mark(3, 5);
            due("50 has a seat of it that was passed on", x.seat(0), 1);
            due("and is not regarded", x.ofKind(1, 4), 70);
        });
    }

    private void ofKindGroups() {
        says("5: the fill of those who are taken in it;", () -> {
            KeptSeats x = withGroups(3, 1, 0, 2);
            x.seats(0, 3);
            x.reserve(0, 0, 1);
            x.reserve(0, 1, 1);
            due("by rule 0", x.ofKind(0, 5), 2);
            x.groups(3, 0);
            x.groups(1, 0);
            due("only one who can be counted", x.ofKind(0, 5), 1);
            x.manner(2);
            x.groups(3, 2);
            due("not those who are not taken", x.ofKind(0, 5), 1);
            x.groups(1, 1);
            x.groups(3, 0);
            x.manner(1);
            due("by rule 1: more than are counted", x.ofKind(0, 5), 2);
            due("counted", x.ofKind(0, 2), 1);
            due("of nobody", x.ofKind(2, 5), 0);
        });
        says("10 + g: the free reserved seats of group g, 0 to 3;", () -> {
            KeptSeats x = withGroups(8);
            for (int group = 0; group < 4; group++) {
                x.reserve(0, group, 5 - group);
                x.reserve(3, group, group);
            }
            for (int group = 0; group < 4; group++) {
                due("group " + group, x.ofKind(0, 10 + group), 5 - group);
                due("group " + group + " in kind 3", x.ofKind(3, 10 + group), group);
                due("group " + group + " in kind 1", x.ofKind(1, 10 + group), 0);
            }
            x.reserve(0, 0, 0);
            x.seats(0, 1);
            x.round();
            x.answer(0, 2);
            due("one frozen", x.ofKind(0, 13), 1);
            due("not in kind 3", x.ofKind(3, 13), 3);
        });
        says("20 + g: how many of those who are taken in it are counted to group g", () -> {
            KeptSeats x = withGroups(1, 2, 2, 8, 8, 8, 0);
            x.seats(0, 7);
            for (int group = 0; group < 4; group++) {
                x.reserve(0, group, 5);
            }
            int[] numbers = {1, 2, 0, 3};
            for (int group = 0; group < 4; group++) {
                due("group " + group, x.ofKind(0, 20 + group), numbers[group]);
                due("group " + group + " in kind 1", x.ofKind(1, 20 + group), 0);
            }
            x.reserve(0, 3, 2);
            due("as many as are reserved", x.ofKind(0, 23), 2);
        });
        says("Returns the property;", () -> {
            KeptSeats x = withGroups(4, 0);
            x.seats(0, 3);
            x.reserve(0, 2, 2);
            int[] whats = {0, 1, 2, 3, 4, 5, 10, 11, 12, 13, 20, 21, 22, 23};
            int[] values = {3, 2, 1, 1, 89, 1, 0, 0, 2, 0, 0, 0, 1, 0};
            for (int i = 0; i < whats.length; i++) {
                due("property " + whats[i], x.ofKind(0, whats[i]), values[i]);
            }
        });
        says("UNKNOWN if there is no such kind;", () -> {
            KeptSeats x = withMarks(50);
            due("-1", x.ofKind(-1, 0), UNKNOWN);
            due("4", x.ofKind(4, 0), UNKNOWN);
            due("4, group 0", x.ofKind(4, 10), UNKNOWN);
            due("-1, group 3", x.ofKind(-1, 23), UNKNOWN);
            due("far out", x.ofKind(HIGHEST, 0), UNKNOWN);
        });
        says("OUTSIDE if what is none of these.", () -> {
            KeptSeats x = withMarks(50);
            for (int what = -12; what < 50; what++) {
                boolean isOne = what >= 0 && what <= 5 || what >= 10 && what <= 13 || what >= 20 && what <= 23;
                holds("what " + what, isOne != (x.ofKind(0, what) == OUTSIDE));
            }
            int[] far = {LOWEST, LOWEST + 5, LOWEST + 10, LOWEST + 13, LOWEST + 20, LOWEST + 23, HIGHEST};
            for (int what : far) {
                due("what " + what, x.ofKind(0, what), OUTSIDE);
            }
        });
    }

    private void ways() {
        in("Promise 21");
        says("Counts the ways in which as many as possible of the applicants who are taken in a kind can be counted: the number of "
            + "ways to choose as many of them as their fill, and a group for each, as described at Seats.", () -> {
            KeptSeats x = withGroups(1, 1, 1, 1);
            x.seats(0, 3);
            due("nobody can be counted: one way", x.ways(0), 1);
            x.reserve(0, 0, 1);
            due("one of the three who are taken", x.ways(0), 3);
            x.reserve(0, 0, 2);
            due("two of three", x.ways(0), 3);
            x.reserve(0, 0, 3);
            due("all three", x.ways(0), 1);
            x.reserve(0, 0, 5);
            due("more than there are", x.ways(0), 1);
            x.groups(0, 3);
            x.reserve(0, 0, 2);
            x.reserve(0, 1, 1);
            due("the fill is three: 0 to group 1", x.ways(0), 1);
            x.manner(1);
            x.groups(2, 0);
            x.reserve(0, 0, 1);
            due("by rule 1 as many as the fill, too", x.ways(0), 1);
            due("though fewer are counted", x.ofKind(0, 2), 1);
            due("no act", x.many(4), 15);
        });
        says("Two ways are different if they differ in who is counted, or to which group.", () -> {
            KeptSeats x = withGroups(3, 3);
            x.seats(0, 2);
            x.reserve(0, 0, 1);
            due("who is counted", x.ways(0), 2);
            x.reserve(0, 1, 1);
            due("who to which group", x.ways(0), 2);
            x.reserve(0, 0, 2);
            due("both to 0, or one of them to 1", x.ways(0), 3);
            x.reserve(0, 1, 2);
            due("each to any", x.ways(0), 4);
            x.groups(1, 0);
            due("one to any", x.ways(0), 2);
        });
        says("`kind`: 0 to 3", () -> {
            for (int kind = 0; kind < 4; kind++) {
                KeptSeats x = withGroups(1, 1);
                x.kind(0, kind);
                x.kind(1, kind);
                x.seats(kind, 2);
                x.reserve(kind, 0, 1);
                for (int other = 0; other < 4; other++) {
                    due("ways in " + other, x.ways(other), other == kind ? 2 : 1);
                }
            }
        });
        says("Returns the number of ways;", () -> {
            KeptSeats x = new KeptSeats();
            for (int p = 0; p < 9; p++) {
                x.enter(50, p, 3, 15);
            }
            x.seats(3, 9);
            for (int group = 0; group < 4; group++) {
                x.reserve(3, group, 5);
            }
            due("the most", x.ways(3), 251_664);
            for (int group = 0; group < 4; group++) {
                x.reserve(3, group, 2);
            }
            due("eight of nine: 9 * 8! / 16", x.ways(3), 22_680);
            due("of an empty kind", x.ways(0), 1);
            due("of an empty office", new KeptSeats().ways(0), 1);
        });
        says("UNKNOWN if there is no such kind.", () -> {
            KeptSeats x = withMarks(50);
            due("-1", x.ways(-1), UNKNOWN);
            due("4", x.ways(4), UNKNOWN);
            due("far out", x.ways(LOWEST), UNKNOWN);
            due("far out", x.ways(HIGHEST), UNKNOWN);
        });
    }

    private void by() {
        in("Promise 22");
        says("Returns a property that the choice would have with a certain rule.", () -> {
            for (int rule = 0; rule < 3; rule++) {
                KeptSeats x = withGroups(0, 3, 1, 2);
                x.seats(0, 2);
                x.reserve(0, 0, 1);
                x.reserve(0, 1, 1);
                x.manner(rule);
                due("rule 0, present " + rule, x.by(0, 0), 6);
                due("rule 1, present " + rule, x.by(1, 0), 10);
                due("rule 2, present " + rule, x.by(2, 0), 3);
            }
        });
        says("Nothing changes.", () -> {
            for (int rule = 0; rule < 3; rule++) {
                int m = rule;
                isNoAct(Part::threeForTwo, x -> {
                    for (int what = 0; what < 4; what++) {
                        x.by(m, what);
                    }
                });
            }
        });
        says("`m`: the rule, 0 to 2", () -> {
            KeptSeats x = threeForTwo();
            int[] sets = {5, 5, 3};
            for (int m = 0; m < 3; m++) {
                due("rule " + m, x.by(m, 0), sets[m]);
            }
            due("-1", x.by(-1, 0), OUTSIDE);
            due("3", x.by(3, 0), OUTSIDE);
        });
    }

    private void byProperties() {
        says("`what`: 0: the set of applicants in it;", () -> {
            KeptSeats x = withKinds(2, 1, 2, 3);
            x.seats(1, 2);
            x.heir(1, 2);
            due("one taken, one with a seat that was passed on", x.by(0, 0), 3);
            due("nobody", new KeptSeats().by(0, 0), 0);
            KeptSeats y = full();
            y.seats(0, 9);
            y.seats(1, 9);
            y.heir(1, 0);
            due("all", y.by(2, 0), 65_535);
        });
        says("1: their number;", () -> {
            KeptSeats x = withKinds(2, 1, 2, 3);
            due("nobody", x.by(0, 1), 0);
            x.seats(1, 2);
            x.heir(1, 2);
            for (int m = 0; m < 3; m++) {
                due("two by rule " + m, x.by(m, 1), 2);
            }
        });
        says("2: the sum of their marks;", () -> {
            KeptSeats x = threeForTwo();
            due("90 and 70", x.by(0, 2), 160);
            due("90 and 70", x.by(1, 2), 160);
            due("90 and 80", x.by(2, 2), 170);
            x.seats(3, 1);
            x.heir(3, 0);
            due("with a seat that was passed on", x.by(2, 2), 240);
            due("nobody", new KeptSeats().by(0, 2), 0);
            KeptSeats y = withMarks(99, 99, 99, 99, 99, 99, 99, 99, 99, 99, 99, 99, 99, 99, 99, 99);
            y.seats(0, 9);
            y.seats(1, 9);
            y.heir(1, 0);
            due("the greatest", y.by(0, 2), 1584);
        });
        says("3: how many of them are counted", () -> {
            KeptSeats x = withGroups(3, 1, 0, 2);
            x.seats(0, 2);
            x.reserve(0, 0, 1);
            x.reserve(0, 1, 1);
            due("rule 0", x.by(0, 3), 2);
            due("rule 1", x.by(1, 3), 2);
            due("rule 2", x.by(2, 3), 2);
            x.groups(3, 0);
            due("rule 0, nobody else has group 1", x.by(0, 3), 2);
            due("rule 1: 0 is taken for group 0", x.by(1, 3), 1);
            x.groups(1, 0);
            due("rule 2", x.by(2, 3), 1);
            x.kind(1, 3);
            x.groups(1, 8);
            x.seats(3, 1);
            x.reserve(3, 3, 1);
            x.order(3, 0, 1, 2);
            due("in two kinds", x.by(0, 3), 2);
            x.manner(2);
            due("in two kinds by another rule than the present", x.by(0, 3), 2);
        });
        says("Returns the property;", () -> {
            KeptSeats x = threeForTwo();
            int[] values = {5, 2, 160, 1};
            for (int what = 0; what < 4; what++) {
                due("property " + what, x.by(0, what), values[what]);
            }
        });
        says("OUTSIDE if m or what is out of range.", () -> {
            KeptSeats x = threeForTwo();
            due("m -1", x.by(-1, 0), OUTSIDE);
            due("m 3", x.by(3, 0), OUTSIDE);
            due("what -1", x.by(0, -1), OUTSIDE);
            due("what 4", x.by(0, 4), OUTSIDE);
            due("both", x.by(3, 4), OUTSIDE);
            due("far out", x.by(LOWEST, 0), OUTSIDE);
            due("far out", x.by(0, HIGHEST), OUTSIDE);
        });
    }

    private void sure() {
        in("Promise 23");
        says("Returns who would be in the choice with the 24 orders of the kinds.", () -> {
            KeptSeats x = withKinds(1, 0, 1, 3);
            x.seats(0, 1);
            x.seats(1, 1);
            due("0 with each", x.sure(0), 1);
            due("1 or 2 with some", x.sure(1), 7);
            for (int kind = 1; kind < 4; kind++) {
                KeptSeats y = withKinds(kind, 0, kind);
                y.seats(0, 1);
                y.seats(kind, 1);
                due("some order with " + kind + " before 0", y.sure(1), 7);
                due("some order with 0 before " + kind, y.sure(0), 1);
            }
            firstAndLast();
            int[][] kinds = {{1, 2, 3}, {1, 3, 2}, {2, 1, 3}, {2, 3, 1}, {3, 1, 2}, {3, 2, 1}};
            for (int[] k : kinds) {
                eachOrder(k[0], k[1], k[2]);
                leftOutByOneOrder(k[0], k[1], k[2]);
            }
        });
        says("Nothing changes.", () -> {
            for (int first = 0; first < 2; first++) {
                int[] order = {first, 1 - first, 2, 3};
                isNoAct(() -> {
                    KeptSeats x = withKinds(1, 0, 1);
                    x.seats(0, 1);
                    x.seats(1, 1);
                    x.order(order[0], order[1], order[2], order[3]);
                    return x;
                }, x -> {
                    x.sure(0);
                    x.sure(1);
                });
            }
        });
        says("`how`: 0: the applicants who would be in it with each order;", () -> {
            KeptSeats x = withKinds(1, 0, 1, 2);
            due("no seats", x.sure(0), 0);
            x.seats(0, 1);
            x.seats(1, 1);
            due("0", x.sure(0), 1);
            x.order(1, 0, 2, 3);
            due("0, with another order now", x.sure(0), 1);
            x.seats(0, 2);
            due("1 and 2, too", x.sure(0), 7);
            x.seats(0, 9);
            due("all", x.sure(0), 15);
            due("nobody", new KeptSeats().sure(0), 0);
            KeptSeats y = full();
            y.seats(0, 9);
            y.seats(1, 9);
            y.heir(1, 0);
            due("all 16", y.sure(0), 65_535);
        });
        says("1: those who would be in it with at least one order", () -> {
            KeptSeats x = withKinds(1, 0, 1, 2);
            due("no seats", x.sure(1), 0);
            x.seats(0, 1);
            due("0", x.sure(1), 1);
            x.seats(1, 1);
            due("1 and 2 by turns", x.sure(1), 7);
            x.order(3, 2, 1, 0);
            due("with another order now", x.sure(1), 7);
        });
        says("Returns the set of them;", () -> {
            KeptSeats x = full();
            x.seats(0, 1);
            due("0", x.sure(0), 1);
            x.mark(15, 99);
            x.ticket(0, 999);
            due("15", x.sure(1), 1 << 15);
        });
        says("OUTSIDE if how is out of range.", () -> {
            KeptSeats x = withMarks(50);
            due("-1", x.sure(-1), OUTSIDE);
            due("2", x.sure(2), OUTSIDE);
            due("far out", x.sure(LOWEST), OUTSIDE);
            due("far out", x.sure(HIGHEST), OUTSIDE);
        });
    }

    private void firstAndLast() {
        KeptSeats x = withKinds(1, 2, 3, 0, 1, 2, 3);
        x.seats(0, 3);
        for (int kind = 1; kind < 4; kind++) {
            x.seats(kind, 1);
        }
        due("with 0 as the first, 3 has no seat", x.sure(0), 7);
        KeptSeats y = withKinds(1, 2, 3, 0);
        for (int kind = 0; kind < 4; kind++) {
            y.seats(kind, 1);
        }
        due("with 0 as the last alone, 3 has a seat", y.sure(1), 15);
        due("the others have one always", y.sure(0), 7);
    }

    /** Offices in which few of the orders leave out one who has a seat with all others. */
    private void eachOrder(int a, int b, int c) {
        KeptSeats x = withKinds(c, a, b, a);
        x.seats(0, 2);
        x.seats(a, 1);
        x.seats(b, 1);
        x.seats(c, 2);
        due("3 is left out if " + a + " is first and 0 the next", x.sure(0), 7);
        KeptSeats y = withKinds(b, a, c, a);
        for (int kind = 0; kind < 4; kind++) {
            y.seats(kind, 1);
        }
        y.heir(b, a);
        due("3 is left out if 0 is the third and " + c + " the last", y.sure(0), 7);
        KeptSeats z = withKinds(c, 0, c);
        z.seats(a, 1);
        z.seats(b, 1);
        z.heir(a, c);
        z.heir(b, 0);
        due("1 or 2, as " + a + " or " + b + " passes on first", z.sure(0), 1);
        due("1 or 2, as " + a + " or " + b + " passes on first", z.sure(1), 7);
    }

    /** Offices in which a single one of the 24 orders leaves out applicant 4, who has a seat with all others. */
    private void leftOutByOneOrder(int a, int b, int c) {
        KeptSeats x = withKinds(a, b, c, a, 0);
        x.groups(1, 2);
        x.groups(4, 7);
        x.seats(0, 2);
        x.seats(a, 1);
        x.seats(b, 1);
        x.seats(c, 1);
        x.heir(b, 0);
        x.heir(c, a);
        x.reserve(0, 1, 1);
        due("4 is left out by " + a + ", 0, " + b + ", " + c, x.sure(0), 15);
        due("and has a seat with others", x.sure(1), 31);
        KeptSeats y = withKinds(b, c, c, 0, c, c);
        y.groups(1, 5);
        y.groups(5, 5);
        y.seats(0, 1);
        y.seats(a, 1);
        y.seats(b, 2);
        y.seats(c, 1);
        y.heir(a, c);
        y.heir(b, 0);
        y.manner(1);
        y.reserve(c, 2, 1);
        due("4 is left out by " + a + ", " + b + ", 0, " + c + " (and 3 by some)", y.sure(0), 7);
        due("both have a seat with others", y.sure(1), 63);
    }
}
