import java.util.List;

/** Promises 30 to 35: rounds, and what was done. */
final class RoundSentences extends Part {
    RoundSentences(Sentences sentences) {
        super(sentences);
    }

    @Override
    void tell() {
        round();
        answer();
        answerErrors();
        again();
        note();
        back();
        backErrors();
        many();
        manyOfTheChoice();
    }

    /** One who is offered (0), one who is floating (1) and one who is waiting (2); two seats. */
    private static KeptSeats offeredAndFloating() {
        KeptSeats x = withGroups(1, 2, 0);
        x.seats(0, 2);
        x.reserve(0, 0, 1);
        x.round();
        x.answer(1, 1);
        return x;
    }

    private void round() {
        in("Promise 30");
        says("Carries out a round.", () -> {
            KeptSeats x = offeredAndFloating();
            x.round();
            due("offered: out", x.ofPerson(0, 4), OUT);
            due("floating, in the choice: floating", x.ofPerson(1, 4), FLOATING);
            due("waiting, in the choice: offered", x.ofPerson(2, 4), OFFERED);
            due("its note", x.note(2, 0), 0);
            due("no note", x.note(0, 0), NONE);
            due("two rounds", x.many(3), 2);
        });
        says("This is an act.", () -> {
            isAct(RoundSentences::offeredAndFloating, KeptSeats::round);
            isAct(Part::threeForTwo, KeptSeats::round);
            isAct(KeptSeats::new, KeptSeats::round);
        });
        says("Returns how many applicants become offered by it.", () -> {
            KeptSeats x = full();
            due("no seats", x.round(), 0);
            x.seats(0, 9);
            due("nine", x.round(), 9);
            for (int p = 0; p < 4; p++) {
                x.answer(p, 1);
            }
            due("four are floating: five others", x.round(), 5);
            due("two are left", x.round(), 2);
            due("nobody", x.round(), 0);
            due("without applicants", new KeptSeats().round(), 0);
            KeptSeats y = withKinds(2, 1);
            y.seats(1, 2);
            y.heir(1, 2);
            due("one of them by a seat that was passed on", y.round(), 2);
        });
    }

    private void answer() {
        in("Promise 31");
        says("Lets an applicant who is offered or floating answer.", () -> {
            for (int how = 0; how < 3; how++) {
                KeptSeats x = offeredAndFloating();
                int[] standings = {OUT, FLOATING, FROZEN};
                x.answer(0, how);
                due("offered, " + how, x.ofPerson(0, 4), standings[how]);
                x.answer(1, how);
                due("floating, " + how, x.ofPerson(1, 4), standings[how]);
                due("another stays", x.ofPerson(2, 4), WAITING);
            }
        });
        says("This is an act.", () -> {
            for (int i = 0; i < 6; i++) {
                int p = i % 2;
                int how = i / 2;
                isAct(RoundSentences::offeredAndFloating, x -> x.answer(p, how));
            }
        });
        says("`p`: number of the applicant", () -> {
            KeptSeats x = full();
            x.seats(0, 9);
            x.seats(1, 9);
            x.heir(1, 0);
            x.round();
            for (int p = 0; p < 16; p++) {
                due("answer of " + p, x.answer(p, p % 3), OFFERED);
            }
            int[] standings = {OUT, FLOATING, FROZEN};
            for (int p = 0; p < 16; p++) {
                due("standing of " + p, x.ofPerson(p, 4), standings[p % 3]);
            }
        });
        says("`how`: 0: the applicant becomes out;", () -> {
            KeptSeats x = offeredAndFloating();
            x.answer(0, 0);
            due("out", x.ofPerson(0, 4), OUT);
            due("no note", x.note(0, 0), NONE);
            x.answer(1, 0);
            due("out", x.ofPerson(1, 4), OUT);
            due("no note", x.note(1, 0), NONE);
            due("its seat is free", x.seat(2), 0);
        });
        says("1: floating;", () -> {
            KeptSeats x = offeredAndFloating();
            x.answer(0, 1);
            due("floating", x.ofPerson(0, 4), FLOATING);
            due("the note stays", x.note(0, 0), 0);
            due("with its group", x.note(0, 1), 0);
            x.answer(0, 1);
            due("floating still", x.ofPerson(0, 4), FLOATING);
            due("active", x.many(1), 3);
        });
        says("2: frozen (with 1 and 2 the note stays)", () -> {
            KeptSeats x = offeredAndFloating();
            x.answer(0, 2);
            due("frozen", x.ofPerson(0, 4), FROZEN);
            int[] notes = {0, 0, 0};
            for (int what = 0; what < 3; what++) {
                due("the note stays", x.note(0, what), notes[what]);
            }
            due("not active", x.many(1), 2);
            due("its seat is not free", x.ofKind(0, 0), 1);
            x.seats(0, 3);
            x.reserve(0, 1, 1);
            x.answer(1, 2);
            due("frozen", x.ofPerson(1, 4), FROZEN);
            due("the note stays, not the choice now", x.note(1, 1), NONE);
        });
    }

    private void answerErrors() {
        says("Returns the previous standing;", () -> {
            KeptSeats x = offeredAndFloating();
            due("offered", x.answer(0, 1), OFFERED);
            due("floating", x.answer(0, 1), FLOATING);
            due("floating", x.answer(0, 2), FLOATING);
            due("floating", x.answer(1, 0), FLOATING);
            x.back(3);
            due("floating", x.answer(0, 0), FLOATING);
            x.back(2);
            due("offered", x.answer(0, 2), OFFERED);
            x.back(1);
            due("offered", x.answer(0, 0), OFFERED);
        });
        says("UNKNOWN if there is no such applicant;", () -> {
            KeptSeats x = offeredAndFloating();
            due("3", x.answer(3, 0), UNKNOWN);
            due("-1", x.answer(-1, 0), UNKNOWN);
            due("16", full().answer(16, 0), UNKNOWN);
            due("nobody", new KeptSeats().answer(0, 0), UNKNOWN);
        });
        says("OUTSIDE if how is out of range;", () -> {
            KeptSeats x = offeredAndFloating();
            due("-1", x.answer(0, -1), OUTSIDE);
            due("3", x.answer(0, 3), OUTSIDE);
            due("3 of one who is waiting", x.answer(2, 3), OUTSIDE);
            due("far out", x.answer(0, LOWEST), OUTSIDE);
            due("far out", x.answer(0, HIGHEST), OUTSIDE);
            due("stays", x.ofPerson(0, 4), OFFERED);
        });
        says("STATE if the applicant is neither offered nor floating.", () -> {
            for (int how = 0; how < 3; how++) {
                KeptSeats x = eachStanding();
                int[] answers = {STATE, OFFERED, FLOATING, STATE, STATE};
                for (int p = 0; p < 5; p++) {
                    due("standing " + p + ", " + how, x.answer(p, how), answers[p]);
                }
                due("waiting stays", x.ofPerson(WAITING, 4), WAITING);
                due("frozen stays", x.ofPerson(FROZEN, 4), FROZEN);
                due("out stays", x.ofPerson(OUT, 4), OUT);
            }
        });
    }

    private void again() {
        in("Promise 32");
        says("Makes an applicant who is out waiting again.", () -> {
            KeptSeats x = eachStanding();
            x.seats(0, 9);
            due("not in the choice", x.seat(OUT), NONE);
            x.again(OUT);
            due("waiting", x.ofPerson(OUT, 4), WAITING);
            due("in the choice", x.seat(OUT), 0);
            due("without a note", x.note(OUT, 0), NONE);
            due("others stay", x.ofPerson(FROZEN, 4), FROZEN);
            due("is offered", x.round(), 2);
            x.round();
            due("one who did not answer", x.again(OUT), 1);
        });
        says("This is an act.", () -> isAct(Part::eachStanding, x -> x.again(OUT)));
        says("`p`: number of the applicant", () -> {
            KeptSeats x = full();
            x.seats(0, 9);
            x.seats(1, 9);
            x.heir(1, 0);
            x.round();
            x.round();
            due("all are out", x.many(7), 16);
            for (int p = 15; p >= 0; p--) {
                due("again " + p, x.again(p), 1);
                due("waiting", x.ofPerson(p, 4), WAITING);
                due("out", x.many(7), p);
            }
        });
        says("Returns 1;", () -> due("again", eachStanding().again(OUT), 1));
        says("UNKNOWN if there is no such applicant;", () -> {
            due("5", eachStanding().again(5), UNKNOWN);
            due("-1", eachStanding().again(-1), UNKNOWN);
            due("16", full().again(16), UNKNOWN);
            due("nobody", new KeptSeats().again(0), UNKNOWN);
        });
        says("STATE if the applicant is not out.", () -> {
            KeptSeats x = eachStanding();
            for (int p = 0; p < 4; p++) {
                due("standing " + p, x.again(p), STATE);
                due("stays", x.ofPerson(p, 4), p);
            }
            x.again(OUT);
            due("waiting again", x.again(OUT), STATE);
        });
    }

    private void note() {
        in("Promise 33");
        says("Returns what the note of an applicant tells.", () -> {
            KeptSeats x = offeredAndFloating();
            x.groups(0, 0);
            x.seats(0, 0);
            due("not what the choice tells now", x.note(0, 0), 0);
            due("not what the choice tells now", x.note(0, 1), 0);
            isNoAct(RoundSentences::offeredAndFloating, a -> a.note(0, 0));
        });
        says("`p`: number of an applicant", () -> {
            KeptSeats x = full();
            x.seats(0, 8);
            x.round();
            for (int p = 0; p < 16; p++) {
                due("note of " + p, x.note(p, 0), p < 8 ? 0 : NONE);
            }
        });
        says("`what`: 0: the kind of the seat;", () -> {
            for (int kind = 0; kind < 4; kind++) {
                KeptSeats x = withKinds(kind);
                x.seats(kind, 1);
                x.round();
                due("kind " + kind, x.note(0, 0), kind);
            }
            KeptSeats y = withKinds(2);
            y.seats(3, 1);
            y.heir(3, 2);
            y.round();
            due("of a seat that was passed on", y.note(0, 0), 3);
        });
        says("1: the group, NONE for none;", () -> {
            for (int group = 0; group < 4; group++) {
                KeptSeats x = withGroups(15, 0);
                x.seats(0, 2);
                x.reserve(0, group, 1);
                x.round();
                due("group " + group, x.note(0, 1), group);
                due("none", x.note(1, 1), NONE);
                due("with a note", x.note(1, 0), 0);
            }
        });
        says("2: 1 if the seat was passed on, else 0", () -> {
            KeptSeats x = withKinds(2, 1);
            x.seats(1, 2);
            x.heir(1, 2);
            x.round();
            due("passed on", x.note(0, 2), 1);
            due("taken", x.note(1, 2), 0);
        });
        says("Returns that;", () -> {
            KeptSeats x = offeredAndFloating();
            int[][] notes = {{0, 0, 0}, {0, NONE, 0}};
            for (int what = 0; what < 3; what++) {
                due("note of 0, " + what, x.note(0, what), notes[0][what]);
                due("note of 1, " + what, x.note(1, what), notes[1][what]);
            }
        });
        says("NONE if the applicant has no note;", () -> {
            KeptSeats x = eachStanding();
            for (int what = 0; what < 3; what++) {
                due("waiting, " + what, x.note(WAITING, what), NONE);
                due("out, " + what, x.note(OUT, what), NONE);
            }
            due("offered", x.note(OFFERED, 0), 0);
            due("floating", x.note(FLOATING, 0), 0);
            due("frozen", x.note(FROZEN, 0), 0);
        });
        says("UNKNOWN if there is no such applicant;", () -> {
            due("5", eachStanding().note(5, 0), UNKNOWN);
            due("-1", eachStanding().note(-1, 0), UNKNOWN);
            due("16", full().note(16, 0), UNKNOWN);
            due("nobody", new KeptSeats().note(0, 0), UNKNOWN);
        });
        says("OUTSIDE if what is out of range.", () -> {
            KeptSeats x = eachStanding();
            for (int p = 0; p < 5; p++) {
                due("-1, standing " + p, x.note(p, -1), OUTSIDE);
                due("3, standing " + p, x.note(p, 3), OUTSIDE);
            }
            due("far out", x.note(OFFERED, LOWEST), OUTSIDE);
            due("far out", x.note(OFFERED, HIGHEST), OUTSIDE);
        });
    }

    private void back() {
        in("Promise 34");
        says("Takes the latest n acts back, the latest one first: everything becomes as it was before them.", () -> {
            KeptSeats x = new KeptSeats();
            x.enter(50, 5, 1, 1);
            x.enter(40, 4, 2, 2);
            x.seats(1, 2);
            List<Long> before = look(x);
            x.mark(0, 1);
            x.ticket(0, 1);
            x.kind(0, 3);
            x.groups(0, 15);
            x.seats(3, 4);
            x.reserve(3, 1, 2);
            x.heir(1, 2);
            x.manner(1);
            x.order(3, 2, 1, 0);
            x.enter(99, 9, 0, 0);
            x.round();
            x.answer(0, 0);
            x.again(0);
            x.answer(1, 2);
            due("after the choice was looked at", x.seat(2), NONE);
            due("14 acts", x.back(14), 3);
            holds("everything", look(x).equals(before));
            x.kind(1, 1);
            x.seats(0, 1);
            due("the order, too: kind 0 is first", x.seat(0), 0);
            due("the order, too: kind 0 is first", x.seat(1), 1);
        });
        says("This is no act.", () -> {
            KeptSeats x = withMarks(50);
            x.mark(0, 60);
            x.mark(0, 70);
            due("back 1", x.back(1), 2);
            due("two are left", x.many(4), 2);
            due("back 1 again: not forth", x.back(1), 1);
            due("as at first", x.ofPerson(0, 0), 50);
            due("back 0", x.back(0), 1);
            due("nor is this", x.many(4), 1);
        });
        says("`n`: 0 to the number of acts that can be taken back", () -> {
            KeptSeats x = withMarks(50, 40, 30);
            due("0", x.back(0), 3);
            due("nothing is taken back", x.many(0), 3);
            due("4 of 3", x.back(4), OUTSIDE);
            due("3 of 3", x.back(3), 0);
            due("all", x.many(0), 0);
            due("0 of 0", x.back(0), 0);
            due("1 of 0", x.back(1), OUTSIDE);
        });
    }

    private void backErrors() {
        says("Returns how many acts can still be taken back;", () -> {
            for (int n = 0; n <= 24; n++) {
                KeptSeats x = full();
                for (int i = 0; i < 20; i++) {
                    x.mark(i % 16, i);
                }
                due("back " + n + " of 36", x.back(n), 24 - n);
                due("as many says", x.many(4), 24 - n);
                x.round();
                due("one more", x.back(0), Math.min(24, 25 - n));
            }
        });
        says("OUTSIDE if n is out of range.", () -> {
            KeptSeats x = withMarks(50, 40);
            due("-1", x.back(-1), OUTSIDE);
            due("3", x.back(3), OUTSIDE);
            due("25", x.back(25), OUTSIDE);
            due("far out", x.back(LOWEST), OUTSIDE);
            due("far out", x.back(HIGHEST), OUTSIDE);
            due("nothing is taken back", x.many(4), 2);
            KeptSeats y = full();
            for (int i = 0; i < 9; i++) {
                y.round();
            }
            due("25 of 25", y.back(25), OUTSIDE);
            due("24 of 25", y.back(24), 0);
        });
    }

    private void many() {
        in("Promise 35");
        says("Returns a number.", () -> isNoAct(Part::eachStanding, x -> {
            for (int what = 0; what < 8; what++) {
                holds("a number", x.many(what) >= 0);
            }
        }));
        says("`what`: 0: applicants;", () -> {
            due("nobody", new KeptSeats().many(0), 0);
            due("of any standing", eachStanding().many(0), 5);
            due("16", full().many(0), 16);
            KeptSeats x = full();
            x.enter(1, 1, 1, 1);
            due("not a 17th", x.many(0), 16);
            x.back(2);
            due("14", x.many(0), 14);
        });
        says("1: active applicants;", () -> {
            due("nobody", new KeptSeats().many(1), 0);
            KeptSeats x = eachStanding();
            due("waiting, offered and floating", x.many(1), 3);
            x.again(OUT);
            due("four", x.many(1), 4);
            x.answer(OFFERED, 2);
            due("three", x.many(1), 3);
            due("16", full().many(1), 16);
        });
        says("3: rounds (without those that were taken back);", () -> {
            KeptSeats x = new KeptSeats();
            for (int i = 0; i < 40; i++) {
                due("rounds", x.many(3), i);
                x.round();
            }
            due("40", x.many(3), 40);
            x.back(5);
            due("35", x.many(3), 35);
            x.round();
            due("36", x.many(3), 36);
            x.back(20);
            due("16", x.many(3), 16);
        });
        says("4: acts that can be taken back;", () -> {
            KeptSeats x = new KeptSeats();
            for (int i = 0; i < 40; i++) {
                due("acts", x.many(4), Math.min(i, 24));
                x.manner(i % 3);
            }
            x.manner(3);
            x.back(25);
            due("24 at most", x.many(4), 24);
            x.back(7);
            due("17", x.many(4), 17);
        });
    }

    private void manyOfTheChoice() {
        says("2: applicants in the choice;", () -> {
            KeptSeats x = withKinds(1, 1, 2, 3);
            due("nobody", x.many(2), 0);
            x.seats(1, 3);
            due("taken", x.many(2), 2);
            x.heir(1, 2);
            due("and one with a seat that was passed on", x.many(2), 3);
            x.seats(3, 1);
            due("in two kinds", x.many(2), 4);
            x.round();
            x.answer(0, 2);
            due("a frozen one is not in it", x.many(2), 3);
        });
        says("5: applicants who are counted in the choice;", () -> {
            KeptSeats x = withGroups(1, 1, 2, 0);
            x.seats(0, 4);
            due("nobody", x.many(5), 0);
            x.reserve(0, 0, 1);
            due("one", x.many(5), 1);
            x.reserve(0, 1, 5);
            due("two", x.many(5), 2);
            x.kind(1, 3);
            x.seats(3, 1);
            x.reserve(3, 0, 1);
            x.order(3, 2, 1, 0);
            due("three in two kinds", x.many(5), 3);
            x.round();
            x.answer(1, 2);
            due("a frozen one is not counted", x.many(5), 2);
        });
        says("6: frozen applicants;", () -> {
            KeptSeats x = eachStanding();
            due("one", x.many(6), 1);
            x.answer(OFFERED, 2);
            x.answer(FLOATING, 2);
            due("three", x.many(6), 3);
            x.round();
            due("still three", x.many(6), 3);
            x.back(2);
            due("two", x.many(6), 2);
            due("nobody", full().many(6), 0);
        });
        says("7: applicants who are out", () -> {
            KeptSeats x = eachStanding();
            due("one", x.many(7), 1);
            x.answer(FLOATING, 0);
            due("two", x.many(7), 2);
            x.round();
            due("three: one did not answer", x.many(7), 3);
            x.again(OUT);
            due("two", x.many(7), 2);
            due("nobody", full().many(7), 0);
        });
        says("Returns the number;", () -> {
            KeptSeats x = eachStanding();
            int[] values = {5, 3, 3, 1, 11, 0, 1, 1};
            for (int what = 0; what < 8; what++) {
                due("number " + what, x.many(what), values[what]);
            }
        });
        says("OUTSIDE if what is not 0 to 7.", () -> {
            KeptSeats x = eachStanding();
            due("-1", x.many(-1), OUTSIDE);
            due("8", x.many(8), OUTSIDE);
            due("far out", x.many(LOWEST), OUTSIDE);
            due("far out", x.many(HIGHEST), OUTSIDE);
            due("of a new object", new KeptSeats().many(8), OUTSIDE);
        });
    }
}
