/** Promises 24 to 29: if it were otherwise. */
final class OtherwiseSentences extends Part {
    OtherwiseSentences(Sentences sentences) {
        super(sentences);
    }

    @Override
    void tell() {
        threshold();
        claim();
        claimErrors();
        successor();
        passed();
        nearest();
        envy();
    }

    /** An applicant who is frozen (0), one who is out (1), and two who are waiting; one free seat. */
    private static KeptSeats someInactive() {
        KeptSeats x = withMarks(90, 80, 70, 60);
        x.seats(0, 2);
        x.round();
        x.answer(0, 2);
        x.answer(1, 0);
        return x;
    }

    private void threshold() {
        in("Promise 24");
        says("Returns the smallest mark, 0 to 99, with which an applicant would be in the choice, if nothing else were different.",
            () -> {
                KeptSeats x = withMarks(50, 40, 30);
                x.seats(0, 1);
                due("with the number ahead: as much as the next", x.threshold(0), 40);
                due("with the number behind: one more", x.threshold(1), 51);
                x.ticket(1, 5);
                x.ticket(0, 6);
                due("with the ticket ahead", x.threshold(1), 50);
                x.seats(0, 2);
                due("two seats", x.threshold(2), 40);
                x.seats(0, 3);
                due("0: a seat for all", x.threshold(2), 0);
                KeptSeats y = withMarks(98, 10);
                y.seats(0, 1);
                due("99", y.threshold(1), 99);
                y.mark(0, 0);
                due("0 is not enough", y.threshold(1), 1);
                due("as much as the other", y.threshold(0), 10);
                KeptSeats z = threeForTwo();
                due("the only one with a group", z.threshold(2), 0);
                due("beside one with a group", z.threshold(1), 91);
                isNoAct(Part::threeForTwo, a -> a.threshold(1));
            });
        says("`p`: number of an applicant", () -> {
            KeptSeats x = full();
            x.seats(0, 1);
            due("of the best", x.threshold(0), 98);
            for (int p = 1; p < 16; p++) {
                due("threshold of " + p, x.threshold(p), NONE);
            }
            x.mark(0, 97);
            due("behind 1 now", x.threshold(0), 98);
            due("of 1", x.threshold(1), 98);
            due("of 2", x.threshold(2), 99);
            due("of 15", x.threshold(15), 99);
        });
        says("Returns the mark;", () -> {
            KeptSeats x = withMarks(20, 30);
            x.seats(0, 1);
            for (int m = 31; m < 99; m++) {
                x.mark(1, m);
                due("against " + m, x.threshold(0), m);
            }
        });
        says("NONE if there is none;", () -> {
            KeptSeats x = withMarks(99, 30);
            due("no seats", x.threshold(0), NONE);
            x.seats(0, 1);
            due("behind 99", x.threshold(1), NONE);
            x.ticket(0, 1);
            due("ahead of 99 by the ticket", x.threshold(1), 99);
            x.seats(0, 0);
            x.seats(2, 9);
            due("seats of another kind", x.threshold(1), NONE);
            KeptSeats y = withGroups(1, 0);
            y.seats(0, 1);
            y.reserve(0, 0, 1);
            due("kept for another", y.threshold(1), NONE);
        });
        says("UNKNOWN if there is no such applicant;", () -> {
            due("1", withMarks(50).threshold(1), UNKNOWN);
            due("-1", withMarks(50).threshold(-1), UNKNOWN);
            due("16", full().threshold(16), UNKNOWN);
            due("nobody", new KeptSeats().threshold(0), UNKNOWN);
        });
        says("STATE if the applicant is not active.", () -> {
            KeptSeats x = someInactive();
            due("frozen", x.threshold(0), STATE);
            due("out", x.threshold(1), STATE);
            due("waiting", x.threshold(2), 60);
            x.again(1);
            due("waiting again", x.threshold(1), 70);
            KeptSeats y = eachStanding();
            due("offered", y.threshold(OFFERED), 0);
            due("floating", y.threshold(FLOATING), 0);
        });
    }

    private void claim() {
        in("Promise 25");
        says("Finds the smallest set of groups that an applicant does not have, and with which, in addition to its own ones, the "
            + "applicant would be in the choice, if nothing else were different;", () -> {
            KeptSeats x = withGroups(0, 0);
            x.seats(0, 1);
            for (int group = 0; group < 4; group++) {
                x.reserve(0, group, 1);
                due("group " + group, x.claim(1), 1 << group);
                x.reserve(0, group, 0);
            }
            isNoAct(Part::threeForTwo, a -> a.claim(1));
            due("with the group that it has", threeForTwo().claim(2), 0);
            KeptSeats y = withGroups(1, 1, 2, 3);
            y.seats(0, 2);
            y.reserve(0, 0, 1);
            y.reserve(0, 2, 1);
            due("one that it does not have", y.claim(3), 4);
            due("one beside its own", y.claim(2), 4);
            y.manner(1);
            y.groups(2, 0);
            due("by rule 1", y.claim(2), 4);
            claimBesideOthers();
        });
    }

    /** Whether a group is enough depends on who else has it. */
    private void claimBesideOthers() {
        KeptSeats x = new KeptSeats();
        x.enter(90, 0, 1, 1);
        x.enter(80, 0, 1, 2);
        x.enter(70, 0, 1, 0);
        x.seats(1, 2);
        x.reserve(1, 0, 1);
        x.reserve(1, 1, 1);
        due("better ones have them", x.claim(2), NONE);
        x.reserve(1, 2, 1);
        due("the others fill the seats with theirs", x.claim(2), NONE);
        x.seats(1, 3);
        x.enter(75, 0, 1, 4);
        due("behind one with the same group", x.claim(2), NONE);
        x.groups(3, 0);
        due("nobody else has it", x.claim(2), 4);
    }

    private void claimErrors() {
        says("of several sets with the fewest groups the one with the lowest bit mask.", () -> {
            KeptSeats x = withGroups(0, 0);
            x.seats(0, 1);
            for (int group = 3; group >= 0; group--) {
                x.reserve(0, group, 1);
                due("the lowest of those from " + group, x.claim(1), 1 << group);
            }
            x.groups(1, 1);
            due("already with group 0", x.claim(1), 0);
            x.groups(0, 15);
            due("nothing that the other has not", x.claim(1), NONE);
        });
        says("`p`: number of an applicant", () -> {
            KeptSeats x = new KeptSeats();
            for (int p = 0; p < 16; p++) {
                x.enter(99 - p, 0, 0, 0);
            }
            x.seats(0, 1);
            x.reserve(0, 3, 1);
            due("of 0", x.claim(0), 0);
            for (int p = 1; p < 16; p++) {
                due("of " + p, x.claim(p), 8);
            }
        });
        says("Returns the set, 0 if the applicant is in the choice already;", () -> {
            KeptSeats x = withKinds(0, 2);
            x.seats(0, 1);
            due("taken", x.claim(0), 0);
            x.seats(1, 1);
            x.heir(1, 2);
            due("with a seat that was passed on", x.claim(1), 0);
            x.heir(1, NONE);
            x.reserve(0, 1, 1);
            due("the set", x.claim(1), 2);
        });
        says("NONE if there is none;", () -> {
            KeptSeats x = withGroups(0, 0);
            due("no seats", x.claim(0), NONE);
            x.seats(0, 1);
            due("nothing reserved", x.claim(1), NONE);
            x.reserve(1, 0, 1);
            due("reserved in another kind", x.claim(1), NONE);
            x.manner(2);
            x.reserve(0, 0, 1);
            due("groups are nothing by rule 2", x.claim(1), NONE);
            x.manner(0);
            x.groups(1, 15);
            x.groups(0, 15);
            due("it has them all", x.claim(1), NONE);
        });
        says("UNKNOWN if there is no such applicant;", () -> {
            due("1", withMarks(50).claim(1), UNKNOWN);
            due("-1", withMarks(50).claim(-1), UNKNOWN);
            due("16", full().claim(16), UNKNOWN);
            due("nobody", new KeptSeats().claim(0), UNKNOWN);
        });
        says("STATE if the applicant is not active.", () -> {
            KeptSeats x = someInactive();
            due("frozen", x.claim(0), STATE);
            due("out", x.claim(1), STATE);
            due("waiting", x.claim(2), 0);
            x.again(1);
            due("waiting again", x.claim(1), 0);
            KeptSeats y = eachStanding();
            due("offered", y.claim(OFFERED), 0);
            due("floating", y.claim(FLOATING), 0);
        });
    }

    private void successor() {
        in("Promise 26");
        says("Returns the best ranked applicant who is not in the choice, but would be in it if an applicant who is in it were not "
            + "active.", () -> {
            KeptSeats x = withGroups(0, 0, 1, 1, 0);
            x.seats(0, 2);
            x.reserve(0, 0, 1);
            due("of one without a group: the best ranked", x.successor(0), 1);
            due("of the one with the group: the next with it", x.successor(2), 3);
            x.groups(3, 0);
            due("nobody else with it: the best ranked", x.successor(2), 1);
            isNoAct(Part::threeForTwo, a -> a.successor(0));
            KeptSeats y = withKinds(1, 2, 1, 2);
            y.seats(1, 1);
            y.seats(2, 1);
            due("of the same kind", y.successor(1), 3);
            due("of the same kind", y.successor(0), 2);
            KeptSeats z = withKinds(2, 3, 1, 1);
            z.seats(0, 1);
            z.seats(2, 1);
            z.seats(3, 1);
            z.heir(2, 1);
            z.heir(3, 1);
            due("0 has the open seat, 1 its own, 2 the one passed on", z.by(0, 0), 7);
            due("1 would have the open seat, 3 that of 1", z.successor(0), 3);
            due("of one to whom a seat was passed on", z.successor(2), 3);
        });
        says("`p`: number of the applicant who is in the choice", () -> {
            KeptSeats x = full();
            x.seats(0, 9);
            for (int p = 0; p < 9; p++) {
                due("successor of " + p, x.successor(p), 9);
            }
            for (int p = 9; p < 16; p++) {
                due("successor of " + p, x.successor(p), STATE);
            }
        });
        says("Returns the number of the other one;", () -> {
            KeptSeats x = withMarks(10, 30, 20);
            x.seats(0, 1);
            due("2 after 1", x.successor(1), 2);
            x.mark(0, 25);
            due("0 after 1", x.successor(1), 0);
            x.mark(0, 40);
            due("1 after 0", x.successor(0), 1);
        });
        says("NONE if there is none;", () -> {
            KeptSeats x = withKinds(1, 2);
            x.seats(0, 9);
            due("all are in it", x.successor(0), NONE);
            x.seats(0, 0);
            x.seats(1, 1);
            due("the other is no candidate", x.successor(0), NONE);
            x.heir(1, 2);
            due("the seat would be passed on", x.successor(0), 1);
            KeptSeats y = withMarks(90, 80);
            y.seats(0, 1);
            y.round();
            y.round();
            due("the other is out", y.successor(1), NONE);
            due("the only one", alone().successor(0), NONE);
        });
        says("UNKNOWN if there is no such applicant;", () -> {
            due("1", alone().successor(1), UNKNOWN);
            due("-1", alone().successor(-1), UNKNOWN);
            due("16", full().successor(16), UNKNOWN);
            due("nobody", new KeptSeats().successor(0), UNKNOWN);
        });
        says("STATE if the applicant is not in the choice.", () -> {
            KeptSeats x = someInactive();
            due("frozen", x.successor(0), STATE);
            due("out", x.successor(1), STATE);
            due("in it", x.successor(2), 3);
            due("waiting, not in it", x.successor(3), STATE);
        });
    }

    private static KeptSeats alone() {
        KeptSeats x = withMarks(50);
        x.seats(0, 1);
        return x;
    }

    private void passed() {
        in("Promise 27");
        says("Returns the applicants in the choice who are ranked behind an active applicant who is not in it.", () -> {
            KeptSeats x = new KeptSeats();
            x.enter(90, 0, 1, 0);
            x.enter(80, 0, 2, 0);
            x.enter(70, 0, 1, 0);
            x.enter(80, 1, 3, 0);
            x.enter(60, 0, 3, 0);
            x.seats(1, 2);
            x.seats(3, 1);
            due("2 and 3, not 0 who is ahead, nor 4 without a seat", x.passed(1), 12);
            due("nobody behind", x.passed(4), 0);
            x.ticket(1, 2);
            due("3 is ahead by its ticket", x.passed(1), 4);
            x.seats(2, 1);
            x.heir(2, 3);
            x.kind(1, 0);
            due("4 has a seat that was passed on", x.passed(1), 20);
            isNoAct(Part::threeForTwo, a -> a.passed(1));
        });
        says("`p`: number of the applicant", () -> {
            KeptSeats x = full();
            x.seats(3, 1);
            for (int p = 0; p < 16; p++) {
                due("passed " + p, x.passed(p), p == 3 ? STATE : p < 3 ? 8 : 0);
            }
        });
        says("Returns the set of them;", () -> {
            KeptSeats x = full();
            for (int p = 1; p < 16; p++) {
                x.kind(p, 1);
            }
            x.seats(1, 9);
            due("nine", x.passed(0), 0x3fe);
            x.heir(2, 1);
            x.seats(2, 9);
            due("fifteen", x.passed(0), 0xfffe);
        });
        says("UNKNOWN if there is no such applicant;", () -> {
            due("1", withMarks(50).passed(1), UNKNOWN);
            due("-1", withMarks(50).passed(-1), UNKNOWN);
            due("16", full().passed(16), UNKNOWN);
            due("nobody", new KeptSeats().passed(0), UNKNOWN);
        });
        says("STATE if the applicant is not active, or is in the choice.", () -> {
            KeptSeats x = someInactive();
            due("frozen", x.passed(0), STATE);
            due("out", x.passed(1), STATE);
            due("in it", x.passed(2), STATE);
            due("active, and not in it", x.passed(3), 0);
            KeptSeats y = withKinds(2);
            y.seats(1, 1);
            y.heir(1, 2);
            due("in it with a seat that was passed on", y.passed(0), STATE);
            KeptSeats z = eachStanding();
            z.seats(0, 1);
            for (int p = 0; p < 5; p++) {
                due("standing " + p + ", no free seats", z.passed(p), p <= FLOATING ? 0 : STATE);
            }
        });
    }

    private void nearest() {
        in("Promise 28");
        says("Returns one of the active applicants who are not in the choice and for whom there is a threshold (see threshold()), "
            + "ordered by threshold minus mark, the smallest difference first, and with equal differences by rank.", () -> {
            KeptSeats x = withMarks(50, 40, 45, 45, 49);
            x.seats(0, 1);
            int[] order = {4, 2, 3, 1, NONE};
            for (int k = 0; k < 5; k++) {
                due("differences 2, 6, 6, 11: place " + k, x.nearest(k), order[k]);
            }
            x.ticket(2, 1);
            due("by rank: the smaller ticket", x.nearest(1), 3);
            isNoAct(Part::threeForTwo, a -> a.nearest(0));
            noThreshold();
            otherKinds();
            KeptSeats z = someInactive();
            due("3 alone is active and not in it", z.nearest(0), 3);
            due("not one who is frozen or out", z.nearest(1), NONE);
        });
        says("`k`: place in this order, 0 to 15", () -> {
            KeptSeats x = new KeptSeats();
            for (int p = 0; p < 16; p++) {
                x.enter(80 - p, 0, 0, 0);
            }
            x.seats(0, 1);
            for (int k = 0; k < 15; k++) {
                due("place " + k, x.nearest(k), k + 1);
            }
            due("place 15", x.nearest(15), NONE);
        });
        says("Returns the number of the applicant;", () -> {
            KeptSeats x = withMarks(10, 30, 20);
            x.seats(0, 1);
            due("the nearest", x.nearest(0), 2);
            due("the next", x.nearest(1), 0);
        });
        says("NONE if there is no such place;", () -> {
            KeptSeats x = withMarks(50, 40);
            due("no seats, no threshold", x.nearest(0), NONE);
            x.seats(0, 1);
            for (int k = 1; k < 16; k++) {
                due("place " + k + " of one", x.nearest(k), NONE);
            }
            x.seats(0, 2);
            due("all are in it", x.nearest(0), NONE);
            due("nobody", new KeptSeats().nearest(0), NONE);
        });
        says("OUTSIDE if k is out of range.", () -> {
            due("-1", full().nearest(-1), OUTSIDE);
            due("16", full().nearest(16), OUTSIDE);
            due("16 without applicants", new KeptSeats().nearest(16), OUTSIDE);
            due("far out", full().nearest(LOWEST), OUTSIDE);
            due("far out", full().nearest(HIGHEST), OUTSIDE);
        });
    }

    private void noThreshold() {
        KeptSeats x = withMarks(99, 98, 97);
        x.ticket(0, 1);
        x.ticket(2, 2);
        x.seats(0, 1);
        due("1 would be ahead with 99", x.nearest(0), 1);
        due("2 would not", x.nearest(1), NONE);
    }

    /** Two who lack as much, though their marks are far apart. */
    private void otherKinds() {
        KeptSeats x = new KeptSeats();
        x.enter(90, 0, 1, 0);
        x.enter(85, 0, 1, 0);
        x.enter(20, 0, 2, 0);
        x.enter(15, 0, 2, 0);
        x.enter(12, 0, 2, 0);
        x.seats(1, 1);
        x.seats(2, 1);
        due("6 in both kinds: by rank", x.nearest(0), 1);
        due("6 in both kinds: by rank", x.nearest(1), 3);
        x.mark(3, 16);
        due("5: a small mark, but nearer", x.nearest(0), 3);
        due("then 6", x.nearest(1), 1);
        due("then 9", x.nearest(2), 4);
    }

    private void envy() {
        in("Promise 29");
        says("Counts the pairs of an active applicant p who is not in the choice, and an applicant q who is taken in a kind of which "
            + "p is a candidate, where p is ranked ahead of q, and the fill of those who are taken in this kind would not be smaller "
            + "with p in place of q.", () -> {
            KeptSeats x = envious();
            due("2 and 3 of 0 and of 1", x.envy(), 4);
            x.mark(2, 15);
            due("not of one who is ahead", x.envy(), 3);
            x.mark(2, 60);
            x.groups(3, 0);
            due("not if the fill would be smaller", x.envy(), 2);
            x.groups(3, 1);
            x.seats(2, 1);
            x.kind(3, 2);
            due("not by one who has a seat", x.envy(), 2);
            x.seats(2, 0);
            due("kind 0 has all as candidates", x.envy(), 4);
            isNoAct(Part::threeForTwo, KeptSeats::envy);
            envyByInactive();
            envyInKinds();
        });
        says("Returns the number of pairs.", () -> {
            due("nobody", new KeptSeats().envy(), 0);
            KeptSeats x = threeForTwo();
            due("by rule 0 the fill would be smaller", x.envy(), 0);
            x.manner(2);
            due("by rule 2 none", x.envy(), 0);
            due("one who has a seat", alone().envy(), 0);
            due("four", envious().envy(), 4);
            KeptSeats y = withGroups(3, 1, 1, 1, 2);
            y.seats(0, 2);
            y.reserve(0, 0, 1);
            y.reserve(0, 1, 1);
            y.manner(1);
            due("three of one", y.envy(), 3);
        });
    }

    /** By rule 1 the applicant with both groups (5) is taken for the first, and the worst two (0, 1) for the second. */
    private static KeptSeats envious() {
        KeptSeats x = new KeptSeats();
        x.enter(10, 0, 0, 2);
        x.enter(20, 0, 0, 2);
        x.enter(60, 0, 0, 1);
        x.enter(70, 0, 0, 1);
        x.enter(80, 0, 0, 0);
        x.enter(90, 0, 0, 3);
        x.seats(0, 3);
        x.reserve(0, 0, 1);
        x.reserve(0, 1, 2);
        x.manner(1);
        return x;
    }

    private void envyByInactive() {
        KeptSeats x = envious();
        x.seats(0, 5);
        x.round();
        x.answer(3, 0);
        x.seats(0, 3);
        due("not by one who is out", x.envy(), 2);
        x.back(2);
        x.answer(0, 2);
        x.seats(0, 3);
        due("not of one who is frozen", x.envy(), 2);
    }

    /** The pairs of kind 1 by rule 1; candidates of another kind have none there. */
    private void envyInKinds() {
        KeptSeats x = new KeptSeats();
        x.enter(90, 0, 1, 3);
        x.enter(80, 0, 1, 1);
        x.enter(70, 0, 1, 2);
        x.enter(85, 0, 2, 1);
        x.enter(84, 0, 0, 1);
        x.seats(1, 2);
        x.reserve(1, 0, 1);
        x.reserve(1, 1, 1);
        x.manner(1);
        due("1 of 2; 3 and 4 are no candidates", x.envy(), 1);
        x.kind(3, 1);
        x.kind(4, 1);
        due("1, 3 and 4 of 2", x.envy(), 3);
        x.mark(2, 85);
        x.ticket(2, 1);
        due("3 of 2: ahead by the ticket", x.envy(), 1);
        x.ticket(2, 0);
        due("2 is ahead by the number", x.envy(), 0);
        KeptSeats y = new KeptSeats();
        y.enter(90, 0, 2, 0);
        y.enter(80, 0, 3, 0);
        y.seats(1, 1);
        y.heir(1, 3);
        due("not of one to whom a seat was passed on", y.envy(), 0);
    }
}
