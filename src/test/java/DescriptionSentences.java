import java.lang.reflect.Method;
import java.lang.reflect.Modifier;

/** The description's sentences on applicants, seats, the choice and seats that are passed on. */
final class DescriptionSentences extends Part {
    DescriptionSentences(Sentences sentences) {
        super(sentences);
    }

    @Override
    void tell() {
        in("Description");
        applicants();
        ranking();
        activeOnesAndSets();
        seats();
        freeSeats();
        counting();
        choice();
        rules();
        ruleOne();
        countings();
        heirs();
        passingOn();
        methods();
    }

    private void applicants() {
        says("There are at most 16 applicants, numbered from 0 in the order in which they were entered.", () -> {
            KeptSeats x = new KeptSeats();
            for (int p = 0; p < 16; p++) {
                due("enter", x.enter(p * 7 % 16, 99 - p, p % 4, p), p);
            }
            due("a 17th", x.enter(50, 50, 1, 1), FULL);
            due("still 16", x.many(0), 16);
            due("no applicant 16", x.ofPerson(16, 0), UNKNOWN);
            for (int p = 0; p < 16; p++) {
                due("the mark of " + p, x.ofPerson(p, 0), p * 7 % 16);
                due("the ticket of " + p, x.ofPerson(p, 1), 99 - p);
            }
        });
        says("An applicant has a mark (0 to 99), a ticket (0 to 999), a kind (0 to 3), a set of groups (out of 0 to 3), and a "
            + "standing: 0 waiting (at first), 1 offered, 2 floating, 3 frozen, 4 out.", () -> {
            KeptSeats x = new KeptSeats();
            due("the least of all", x.enter(0, 0, 0, 0), 0);
            due("the most of all", x.enter(99, 999, 3, 15), 1);
            int[] most = {99, 999, 3, 15, WAITING};
            for (int what = 0; what < 5; what++) {
                due("the least, " + what, x.ofPerson(0, what), 0);
                due("the most, " + what, x.ofPerson(1, what), most[what]);
            }
            x.seats(0, 1);
            x.round();
            due("offered", x.ofPerson(1, 4), 1);
            x.answer(1, 1);
            due("floating", x.ofPerson(1, 4), 2);
            x.answer(1, 2);
            due("frozen", x.ofPerson(1, 4), 3);
            x.back(1);
            x.answer(1, 0);
            due("out", x.ofPerson(1, 4), 4);
        });
    }

    private void ranking() {
        says("An applicant with a greater mark is ranked ahead;", () -> {
            KeptSeats x = new KeptSeats();
            x.enter(50, 0, 0, 15);
            x.enter(51, 999, 0, 0);
            due("one mark more, against the greatest ticket", x.ranked(0), 1);
            x.mark(0, 0);
            x.mark(1, 1);
            due("0 and 1", x.ranked(0), 1);
            x.mark(0, 98);
            x.mark(1, 99);
            due("98 and 99", x.ranked(0), 1);
            x.seats(0, 1);
            due("and has the seat", x.seat(1), 0);
        });
        says("with equal marks the one with the smaller ticket;", () -> {
            KeptSeats x = new KeptSeats();
            x.enter(50, 1, 0, 0);
            x.enter(50, 0, 0, 0);
            due("0 and 1", x.ranked(0), 1);
            x.ticket(0, 999);
            x.ticket(1, 998);
            due("998 and 999", x.ranked(0), 1);
            x.seats(0, 1);
            due("and has the seat", x.seat(1), 0);
        });
        says("with equal tickets the one with the smaller number.", () -> {
            KeptSeats x = new KeptSeats();
            for (int p = 0; p < 16; p++) {
                x.enter(99, 999, 0, 0);
            }
            for (int p = 0; p < 16; p++) {
                due("place " + p, x.ranked(p), p);
                due("ahead of " + p, x.ofPerson(p, 5), p);
            }
            x.seats(0, 1);
            due("0 has the seat", x.seat(0), 0);
        });
    }

    private void activeOnesAndSets() {
        says("The applicants who are waiting, offered or floating are active.", () -> {
            KeptSeats x = eachStanding();
            due("three", x.many(1), 3);
            x.seats(0, 9);
            due("waiting, offered and floating are in the choice", x.by(0, 0), 7);
            for (int p = 0; p < 5; p++) {
                due("the standing of " + p, x.ofPerson(p, 4), p);
                due("threshold of one of standing " + p, x.threshold(p), p <= FLOATING ? 0 : STATE);
            }
        });
        says("Sets are returned as bit masks: bit k stands for applicant or group k.", () -> {
            KeptSeats x = new KeptSeats();
            for (int p = 0; p < 16; p++) {
                x.enter(p, 0, 0, 0);
            }
            x.seats(0, 1);
            due("by: applicant 15", x.by(0, 0), 1 << 15);
            due("sure: applicant 15", x.sure(0), 1 << 15);
            x.mark(0, 99);
            due("by: applicant 0", x.by(0, 0), 1);
            x.mark(0, 0);
            x.groups(3, 8);
            x.reserve(0, 3, 1);
            due("passed: applicant 3", x.passed(15), 1 << 3);
            due("claim: group 3", x.claim(15), 8);
            x.groups(3, 1);
            x.reserve(0, 3, 0);
            x.reserve(0, 0, 1);
            due("claim: group 0", x.claim(15), 1);
        });
    }

    private void seats() {
        says("For each kind there is a number of seats (0 to 9), and for each kind and each group a number of reserved seats "
            + "(0 to 5);", () -> {
            KeptSeats x = new KeptSeats();
            for (int kind = 0; kind < 4; kind++) {
                x.seats(kind, 9 - kind);
                for (int group = 0; group < 4; group++) {
                    x.reserve(kind, group, (5 + kind + group) % 6);
                }
            }
            for (int kind = 0; kind < 4; kind++) {
                due("seats of " + kind, x.seats(kind, 0), 9 - kind);
                for (int group = 0; group < 4; group++) {
                    due("reserved " + kind + ", " + group, x.reserve(kind, group, 0), (5 + kind + group) % 6);
                }
            }
            due("ten seats", x.seats(0, 10), OUTSIDE);
            due("fewer than none", x.seats(0, -1), OUTSIDE);
            due("six reserved", x.reserve(0, 0, 6), OUTSIDE);
            due("fewer than none reserved", x.reserve(0, 0, -1), OUTSIDE);
        });
        says("all are 0 at first.", () -> {
            KeptSeats x = new KeptSeats();
            for (int kind = 0; kind < 4; kind++) {
                due("free seats of " + kind, x.ofKind(kind, 0), 0);
                due("seats of " + kind, x.seats(kind, 1), 0);
                for (int group = 0; group < 4; group++) {
                    due("free reserved " + kind + ", " + group, x.ofKind(kind, 10 + group), 0);
                    due("reserved " + kind + ", " + group, x.reserve(kind, group, 1), 0);
                }
            }
        });
        says("Kind 0 is open: its candidates are all applicants;", () -> {
            KeptSeats x = withKinds(0, 1, 2, 3);
            x.seats(0, 4);
            for (int p = 0; p < 4; p++) {
                due("one of kind " + p, x.seat(p), 0);
            }
        });
        says("the candidates of another kind are the applicants of that kind.", () -> {
            for (int kind = 1; kind < 4; kind++) {
                KeptSeats x = withKinds(0, 1, 2, 3);
                x.seats(kind, 9);
                for (int p = 0; p < 4; p++) {
                    due("one of kind " + p + ", seats of " + kind, x.seat(p), p == kind ? kind : NONE);
                }
                x.kind(kind, 0);
                due("one who was of kind " + kind, x.seat(kind), NONE);
            }
        });
    }

    private void freeSeats() {
        says("The free seats of a kind are its seats minus the number of the frozen applicants whose note tells this kind, but "
            + "at least 0;", () -> {
            KeptSeats x = withKinds(1, 1, 1, 1);
            x.seats(1, 3);
            x.seats(2, 3);
            x.round();
            due("offers bind no seat", x.ofKind(1, 0), 3);
            x.answer(0, 1);
            due("nor does a floating one", x.ofKind(1, 0), 3);
            x.answer(0, 2);
            due("one frozen", x.ofKind(1, 0), 2);
            x.answer(1, 2);
            x.kind(1, 2);
            due("two frozen, one of another kind by now", x.ofKind(1, 0), 1);
            due("none of kind 2", x.ofKind(2, 0), 3);
            x.seats(1, 2);
            due("just as many frozen", x.ofKind(1, 0), 0);
            due("nobody is taken", x.ofKind(1, 1), 0);
            x.seats(1, 1);
            due("more frozen than seats", x.ofKind(1, 0), 0);
            due("and nobody has fewer than none", x.ofKind(1, 3), 0);
            x.seats(1, 0);
            due("no seats", x.ofKind(1, 0), 0);
            x.seats(1, 4);
            due("seats again", x.ofKind(1, 0), 2);
        });
        says("the free reserved seats of a group in a kind are the reserved seats minus the number of the frozen applicants whose "
            + "note tells this kind and this group, but at least 0.", () -> {
            KeptSeats x = withGroups(4, 4, 4, 0);
            x.seats(0, 9);
            x.reserve(0, 2, 3);
            x.reserve(1, 2, 3);
            x.reserve(0, 1, 3);
            x.round();
            due("offers bind none", x.ofKind(0, 12), 3);
            x.answer(0, 2);
            due("one frozen", x.ofKind(0, 12), 2);
            due("another group", x.ofKind(0, 11), 3);
            due("another kind", x.ofKind(1, 12), 3);
            x.answer(3, 2);
            due("a frozen one with no group", x.ofKind(0, 12), 2);
            x.answer(1, 2);
            x.groups(1, 2);
            due("a frozen one with another group by now", x.ofKind(0, 12), 1);
            x.reserve(0, 2, 2);
            due("just as many frozen", x.ofKind(0, 12), 0);
            x.reserve(0, 2, 1);
            due("more frozen than reserved", x.ofKind(0, 12), 0);
            due("nobody is counted then", x.counted(2), NONE);
            x.reserve(0, 2, 5);
            due("reserved again", x.ofKind(0, 12), 3);
        });
        says("An applicant can have a note, which tells the kind of a seat, a group or none, and whether the seat was passed on "
            + "(see Rounds).", () -> {
            KeptSeats x = new KeptSeats();
            x.enter(90, 0, 3, 8);
            x.enter(80, 0, 3, 0);
            x.enter(70, 0, 2, 8);
            x.enter(60, 0, 1, 8);
            x.seats(3, 3);
            x.reserve(3, 3, 3);
            x.heir(3, 2);
            due("none at first", x.note(0, 0), NONE);
            x.round();
            int[][] notes = {{3, 3, 0}, {3, NONE, 0}, {3, NONE, 1}, {NONE, NONE, NONE}};
            for (int p = 0; p < 4; p++) {
                for (int what = 0; what < 3; what++) {
                    due("note of " + p + ", " + what, x.note(p, what), notes[p][what]);
                }
            }
        });
    }

    private void counting() {
        says("Reserved seats are filled by counting: each of some applicants is counted to one group that it has, and to no group "
            + "more applicants are counted than there are free reserved seats of it in the kind.", () -> {
            KeptSeats x = withGroups(2, 2, 2, 0);
            x.seats(0, 4);
            for (int group = 0; group < 4; group++) {
                x.reserve(0, group, 2);
            }
            due("two of three to group 1", x.ofKind(0, 21), 2);
            due("to group 0, which nobody has", x.ofKind(0, 20), 0);
            due("to group 2, which nobody has", x.ofKind(0, 22), 0);
            due("in all", x.ofKind(0, 2), 2);
            due("one without groups", x.counted(3), NONE);
            x.reserve(0, 1, 0);
            due("without reserved seats", x.ofKind(0, 2), 0);
            KeptSeats y = withGroups(2, 8);
            y.seats(0, 2);
            for (int group = 0; group < 4; group++) {
                y.reserve(0, group, 5);
            }
            due("to group 1 alone", y.counted(0), 1);
            due("to group 3 alone", y.counted(1), 3);
        });
        says("The fill of a set of applicants in a kind is the greatest number of them that can be counted at the same time.", () -> {
            KeptSeats x = withGroups(15, 7, 3, 1);
            x.seats(0, 4);
            due("nothing reserved", x.ofKind(0, 5), 0);
            for (int group = 0; group < 4; group++) {
                x.reserve(0, group, 1);
            }
            due("each has to leave its smaller groups", x.ofKind(0, 5), 4);
            x.groups(0, 3);
            due("three with two groups", x.ofKind(0, 5), 3);
            x.groups(1, 3);
            due("four with two groups", x.ofKind(0, 5), 2);
            x.reserve(0, 0, 5);
            due("more reserved than applicants", x.ofKind(0, 5), 4);
            due("of nobody", x.ofKind(1, 5), 0);
        });
    }

    private void choice() {
        says("The choice tells which applicants have which seats.", () -> {
            KeptSeats x = withKinds(3, 2, 1, 0, 0);
            for (int kind = 0; kind < 4; kind++) {
                x.seats(kind, 1);
            }
            x.order(3, 2, 1, 0);
            int[] kinds = {3, 2, 1, 0, NONE};
            for (int p = 0; p < 5; p++) {
                due("seat of " + p, x.seat(p), kinds[p]);
            }
        });
        says("It is made kind by kind in the present order of the kinds, which is 0, 1, 2, 3 at first.", () -> {
            for (int kind = 1; kind < 4; kind++) {
                KeptSeats x = withKinds(kind);
                x.seats(0, 1);
                x.seats(kind, 1);
                due("0 before " + kind + " at first", x.seat(0), 0);
                x.order(kind, kind % 3 + 1, (kind + 1) % 3 + 1, 0);
                due(kind + " before 0", x.seat(0), kind);
            }
            KeptSeats x = withKinds(0, 0, 0);
            for (int kind = 1; kind < 4; kind++) {
                x.seats(kind, 1);
                x.heir(kind, 0);
            }
            for (int p = 0; p < 3; p++) {
                due("passed on by 1, 2, 3 at first", x.seat(p), p + 1);
            }
            x.order(3, 1, 0, 2);
            int[] kinds = {3, 1, 2};
            for (int p = 0; p < 3; p++) {
                due("passed on by 3, 1, 2", x.seat(p), kinds[p]);
            }
        });
        says("In a kind, as many applicants are taken as there are free seats, out of its active candidates who have not been taken "
            + "in an earlier kind (all of them, if there are not more).", () -> {
            for (int rule = 0; rule < 3; rule++) {
                KeptSeats x = withGroups(1, 0, 2, 3, 0);
                x.manner(rule);
                x.reserve(0, 0, 5);
                x.reserve(0, 1, 5);
                for (int n = 0; n < 10; n++) {
                    x.seats(0, n);
                    due(n + " seats by rule " + rule, x.ofKind(0, 1), Math.min(n, 5));
                }
                x.seats(1, 9);
                x.kind(3, 1);
                due("those of an earlier kind, by rule " + rule, x.ofKind(1, 1), 0);
                x.seats(0, 2);
                x.order(1, 0, 2, 3);
                due("one in kind 1 now, by rule " + rule, x.ofKind(1, 1), 1);
                due("and two others, by rule " + rule, x.ofKind(0, 1), 2);
                x.back(4);
                x.round();
                x.answer(0, 2);
                x.answer(1, 0);
                due("active ones only, by rule " + rule, x.ofKind(0, 1), 3);
            }
        });
    }

    private void rules() {
        says("Who is taken depends on the rule (called manner), which is 0 at first:", () -> {
            KeptSeats x = withGroups(0, 3, 1, 2);
            x.seats(0, 2);
            x.reserve(0, 0, 1);
            x.reserve(0, 1, 1);
            due("at first", x.by(0, 0), 6);
            due("at first, who is taken", x.seat(2), 0);
            due("the rule at first", x.manner(1), 0);
            due("by rule 1", x.seat(3), 0);
            due("by rule 1", x.seat(2), NONE);
            due("the rule before", x.manner(2), 1);
            due("by rule 2", x.seat(0), 0);
            due("by rule 2", x.seat(2), NONE);
        });
        says("0: among all sets of this size, those with the greatest fill;", () -> {
            KeptSeats x = withGroups(0, 0, 3, 2, 1);
            x.seats(0, 2);
            due("nothing reserved", x.by(0, 0), 3);
            x.reserve(0, 0, 1);
            due("one reserved: one of those who have it", x.by(0, 0), 5);
            x.reserve(0, 1, 1);
            due("two reserved: both", x.by(0, 0), 12);
            x.seats(0, 1);
            due("one seat", x.by(0, 0), 4);
            x.groups(2, 2);
            x.seats(0, 2);
            due("the worst ranked of all for group 0", x.by(0, 0), 20);
            x.seats(0, 0);
            due("no seat", x.by(0, 0), 0);
            x.seats(0, 9);
            due("more seats than candidates", x.by(0, 0), 31);
        });
        says("of these the set that wins against each other one, where of two sets that one wins to which the best ranked applicant "
            + "belongs who belongs to only one of them.", () -> {
            KeptSeats x = withGroups(0, 1, 0, 1, 0);
            x.seats(0, 2);
            x.reserve(0, 0, 1);
            due("0 and 1, not 1 and 3", x.by(0, 0), 3);
            x.groups(1, 0);
            due("0 and 3, not 1 and 3", x.by(0, 0), 9);
            x.reserve(0, 0, 2);
            x.groups(4, 1);
            due("3 and 4 fill more", x.by(0, 0), 24);
            x.seats(0, 3);
            due("0, 3 and 4", x.by(0, 0), 25);
            x.mark(0, 0);
            due("1, 3 and 4", x.by(0, 0), 26);
            x.ticket(2, 0);
            x.mark(2, 89);
            x.ticket(1, 1);
            due("2, 3 and 4: the smaller ticket", x.by(0, 0), 28);
        });
        says("2: the best ranked ones.", () -> {
            KeptSeats x = withGroups(0, 0, 1, 3, 2);
            x.reserve(0, 0, 5);
            x.reserve(0, 1, 5);
            x.manner(2);
            for (int n = 0; n < 7; n++) {
                x.seats(0, n);
                due(n + " seats", x.by(2, 0), (1 << Math.min(n, 5)) - 1);
            }
        });
    }

    private void ruleOne() {
        says("1: for each group in ascending order, the best ranked candidates who have it and are not taken yet, as many as there "
            + "are free reserved seats of this group in this kind, as long as there are free seats;", () -> {
            KeptSeats x = withGroups(0, 3, 1, 1, 2, 2);
            x.manner(1);
            x.seats(0, 3);
            x.reserve(0, 0, 2);
            x.reserve(0, 1, 1);
            due("1 and 2 for group 0, 4 for group 1", x.by(1, 0), 22);
            due("the one with both is taken for group 0", x.counted(1), 0);
            x.seats(0, 2);
            due("no free seat for group 1", x.by(1, 0), 6);
            x.seats(0, 1);
            due("one free seat", x.by(1, 0), 2);
            x.seats(0, 0);
            due("no free seat", x.by(1, 0), 0);
            x.seats(0, 4);
            x.reserve(0, 1, 5);
            due("more reserved than have it", x.by(1, 0), 54);
            x.reserve(0, 0, 0);
            due("nothing reserved for group 0", x.by(1, 0), 51);
            x.reserve(1, 0, 5);
            due("reserved in another kind", x.by(1, 0), 51);
        });
        says("then the best ranked of the others.", () -> {
            KeptSeats x = withGroups(0, 0, 0, 1, 1);
            x.manner(1);
            x.reserve(0, 0, 1);
            x.seats(0, 2);
            due("3 for group 0, then 0", x.by(1, 0), 9);
            x.seats(0, 4);
            due("3 for group 0, then 0, 1 and 2", x.by(1, 0), 15);
            x.seats(0, 5);
            due("then 4, too", x.by(1, 0), 31);
            due("who is not counted", x.counted(4), NONE);
            x.seats(0, 9);
            due("more seats than candidates", x.by(1, 0), 31);
        });
    }

    private void countings() {
        says("Of those who are taken in a kind, some are counted.", () -> {
            for (int rule = 0; rule < 3; rule++) {
                KeptSeats x = withGroups(1, 1, 0, 1);
                x.manner(rule);
                x.seats(0, 3);
                x.reserve(0, 0, 1);
                due("one who is taken, by rule " + rule, x.counted(0), 0);
                due("another one, by rule " + rule, x.counted(1), NONE);
                due("one without groups, by rule " + rule, x.counted(2), NONE);
                x.reserve(0, 0, 5);
                due("one who is not taken by rule 2, by rule " + rule, x.by(rule, 3), rule == 2 ? 2 : 3);
            }
        });
        says("By the rules 0 and 2, as many as their fill: they are gone through by rank, and each is counted to the smallest group "
            + "with which, given the countings before, the total number of those who can be counted is still the fill;", () -> {
            for (int rule = 0; rule < 3; rule += 2) {
                KeptSeats x = withGroups(14, 6, 2, 6);
                x.manner(rule);
                x.seats(0, 4);
                x.reserve(0, 1, 1);
                x.reserve(0, 2, 1);
                x.reserve(0, 3, 1);
                due("0 leaves 1 and 2 to the others, rule " + rule, x.counted(0), 3);
                due("1 to its smallest, rule " + rule, x.counted(1), 1);
                due("3 to what is left, rule " + rule, x.counted(3), 2);
                due("as many as the fill, rule " + rule, x.ofKind(0, 2), x.ofKind(0, 5));
                x.reserve(0, 1, 2);
                due("0 still leaves 1 and 2, rule " + rule, x.counted(0), 3);
                due("1 to 1, rule " + rule, x.counted(1), 1);
                due("2 to 1, rule " + rule, x.counted(2), 1);
                x.reserve(0, 1, 5);
                for (int p = 0; p < 4; p++) {
                    due("room for all in group 1, rule " + rule, x.counted(p), 1);
                }
                x.mark(3, 99);
                x.reserve(0, 1, 1);
                due("the best ranked one first, rule " + rule, x.counted(3), 1);
            }
        });
        says("to none if there is no such group.", () -> {
            KeptSeats x = withGroups(0, 1, 1, 3);
            x.seats(0, 4);
            x.reserve(0, 0, 1);
            due("without groups", x.counted(0), NONE);
            due("the first of them", x.counted(1), 0);
            due("no seat left in its group", x.counted(2), NONE);
            due("no seat in its other group", x.counted(3), NONE);
            x.reserve(0, 1, 1);
            due("a seat in its other group", x.counted(3), 1);
            due("still none", x.counted(2), NONE);
        });
        says("By rule 1, those who were taken for a group are counted to it, and the others to none.", () -> {
            KeptSeats x = withGroups(3, 1, 2, 0);
            x.manner(1);
            x.seats(0, 4);
            x.reserve(0, 0, 1);
            x.reserve(0, 1, 1);
            due("taken for group 0", x.counted(0), 0);
            due("taken for group 1", x.counted(2), 1);
            due("taken as one of the others, with a group", x.counted(1), NONE);
            due("taken as one of the others", x.counted(3), NONE);
            x.groups(2, 0);
            due("fewer than the fill", x.ofKind(0, 2), 1);
            due("the fill", x.ofKind(0, 5), 2);
        });
    }

    private void heirs() {
        says("After the last kind, seats are passed on.", () -> {
            KeptSeats x = withKinds(2, 2);
            x.seats(1, 1);
            x.seats(2, 1);
            x.heir(1, 2);
            due("kind 2 takes its own first", x.seat(0), 2);
            due("taken", x.handed(0), 0);
            due("the seat of kind 1 is for the next", x.seat(1), 1);
            due("passed on", x.handed(1), 1);
            x.order(1, 2, 3, 0);
            x.seats(0, 1);
            due("kind 0 as the last takes before it is passed on", x.seat(1), 0);
        });
        says("Each of the kinds 1 to 3 can have an heir, which is a kind;", () -> {
            for (int kind = 1; kind < 4; kind++) {
                for (int h = 0; h < 4; h++) {
                    KeptSeats x = withKinds(h == 0 ? kind % 3 + 1 : h);
                    x.seats(kind, 1);
                    due("heir of " + kind, x.heir(kind, h), NONE);
                    due("seat of " + kind + ", heir " + h, x.seat(0), kind);
                    due("is set", x.heir(kind, NONE), h);
                }
            }
        });
        says("at first it has none.", () -> {
            KeptSeats x = withKinds(0, 1, 2, 3);
            for (int kind = 1; kind < 4; kind++) {
                x.seats(kind, 9);
            }
            due("nothing is passed on", x.many(2), 3);
            due("nobody has the others", x.ofKind(1, 3) + x.ofKind(2, 3) + x.ofKind(3, 3), 24);
            for (int kind = 1; kind < 4; kind++) {
                due("heir of " + kind, x.heir(kind, kind), NONE);
            }
        });
        says("Kind by kind in the present order, for each free seat of a kind 1 to 3 that nobody has: the kinds are gone through "
            + "that are reached by going from this kind to its heir, to the heir of that, and so on, until there is no heir, or until "
            + "the heir is the kind itself or one that has been reached already.", () -> {
            presentOrder();
            eachFreeSeat();
            endsOfChains();
        });
    }

    private void presentOrder() {
        KeptSeats x = withKinds(3, 3, 0);
        x.seats(1, 1);
        x.seats(2, 1);
        x.heir(1, 3);
        x.heir(2, 3);
        due("1 before 2", x.seat(0), 1);
        x.order(0, 2, 3, 1);
        due("2 before 1", x.seat(0), 2);
        due("2 before 1", x.seat(1), 1);
    }

    private void eachFreeSeat() {
        KeptSeats x = withKinds(2, 2, 2, 2, 1);
        x.seats(1, 4);
        x.heir(1, 2);
        due("three free seats that nobody has", x.by(0, 0), 23);
        x.seats(1, 9);
        due("more than can be passed on", x.by(0, 0), 31);
        due("nobody has the others", x.ofKind(1, 3), 4);
        x.seats(1, 1);
        due("none that nobody has", x.by(0, 0), 16);
        x.seats(1, 0);
        x.seats(0, 9);
        x.seats(2, 9);
        x.heir(2, 1);
        x.order(2, 1, 3, 0);
        due("seats of kind 0 are not passed on", x.ofKind(0, 3), 8);
    }

    private void endsOfChains() {
        KeptSeats x = withKinds(0, 3, 2);
        x.seats(1, 3);
        x.heir(1, 2);
        due("2 has no heir", x.by(0, 0), 4);
        x.heir(2, 3);
        due("3 has no heir", x.by(0, 0), 6);
        x.heir(3, 0);
        due("0 has no heir", x.by(0, 0), 7);
        x.heir(3, 2);
        due("2 has been reached already", x.by(0, 0), 6);
        x.heir(3, 3);
        due("3 has been reached already", x.by(0, 0), 6);
        x.heir(3, 1);
        due("1 is the kind itself", x.by(0, 0), 6);
        x.heir(2, 1);
        due("1 is the kind itself, a step before", x.by(0, 0), 4);
        x.heir(2, 2);
        due("2 has been reached already, a step before", x.by(0, 0), 4);
        x.heir(1, 1);
        due("1 is the kind itself, at once", x.by(0, 0), 0);
        x.heir(1, NONE);
        due("no heir, at once", x.by(0, 0), 0);
    }

    private void passingOn() {
        says("The first one of these kinds which has an active candidate without a seat gives the seat to the best ranked such "
            + "candidate.", () -> {
            KeptSeats x = withKinds(3, 2, 2, 0);
            x.seats(1, 1);
            x.heir(1, 2);
            x.heir(2, 3);
            x.heir(3, 0);
            due("the best ranked of kind 2, not the better one of kind 3", x.by(0, 0), 2);
            x.seats(2, 1);
            due("the next of kind 2, since the best has a seat", x.seat(2), 1);
            x.seats(2, 2);
            due("nobody in kind 2 without a seat: kind 3", x.seat(0), 1);
            x.seats(3, 1);
            due("nor in kind 3: kind 0", x.seat(3), 1);
            x.back(3);
            x.round();
            x.answer(1, 2);
            x.seats(1, 2);
            due("a frozen one is not active", x.seat(2), 1);
        });
        says("If there is no such kind, nobody gets it.", () -> {
            KeptSeats x = withKinds(1, 2);
            x.seats(1, 3);
            x.heir(1, 3);
            x.heir(3, 3);
            due("nobody of kind 3", x.by(0, 0), 1);
            due("nobody has two seats", x.ofKind(1, 3), 2);
            x.heir(1, 0);
            due("one of them passed on", x.by(0, 0), 3);
            due("nobody has the other", x.ofKind(1, 3), 1);
        });
        says("The seat is one of the kind from which it is passed on, and its applicant is not counted and not regarded as taken in a "
            + "kind.", () -> {
            KeptSeats x = new KeptSeats();
            x.enter(90, 0, 2, 1);
            x.enter(80, 0, 1, 1);
            x.seats(1, 2);
            x.reserve(1, 0, 2);
            x.reserve(2, 0, 2);
            x.heir(1, 2);
            for (int rule = 0; rule < 3; rule++) {
                x.manner(rule);
                due("its kind, rule " + rule, x.seat(0), 1);
                due("not counted, rule " + rule, x.counted(0), NONE);
                due("the taken one is, rule " + rule, x.counted(1), 0);
                due("not taken in 1, rule " + rule, x.taken(1, 0), 1);
                due("not taken in 1, rule " + rule, x.taken(1, 1), NONE);
                due("not taken in 2, rule " + rule, x.taken(2, 0), NONE);
                due("one taken, rule " + rule, x.ofKind(1, 1), 1);
                due("one counted, rule " + rule, x.ofKind(1, 2), 1);
                due("the mark of the one, rule " + rule, x.ofKind(1, 4), 80);
                due("the fill of the one, rule " + rule, x.ofKind(1, 5), 1);
                due("the ways of the one, rule " + rule, x.ways(1), 1);
            }
        });
        says("An applicant is in the choice if it is taken in some kind or gets a seat that is passed on.", () -> {
            KeptSeats x = withKinds(0, 1, 2, 3, 3);
            x.seats(0, 1);
            x.seats(1, 2);
            x.seats(3, 1);
            x.heir(1, 2);
            due("all but 4", x.by(0, 0), 15);
            due("four", x.many(2), 4);
            due("one who is not", x.seat(4), NONE);
            due("one who is taken is not waiting for one", x.passed(0), STATE);
            due("one who got a seat passed on neither", x.passed(2), STATE);
            due("one who is not", x.passed(4), 0);
        });
    }

    private void methods() {
        says("The constructor and the methods follow, a promise each: the signature, then what it does.", () -> {
            int found = 0;
            for (Method m : KeptSeats.class.getDeclaredMethods()) {
                found += Modifier.isPublic(m.getModifiers()) ? 1 : 0;
            }
            due("methods", found, 34);
            due("constructors", KeptSeats.class.getConstructors().length, 1);
        });
    }
}
