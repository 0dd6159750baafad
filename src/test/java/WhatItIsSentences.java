/** The document's first sentences: what the class is, in one office, and for how many calls an object is used. */
final class WhatItIsSentences extends Part {
    private static final int CALLS = 512;

    WhatItIsSentences(Sentences sentences) {
        super(sentences);
    }

    @Override
    void tell() {
        in("What it is");
        office();
        answers();
        calls();
    }

    private void office() {
        says("A model of an admissions office: applicants are ranked by one list;", () -> {
            KeptSeats x = withKinds(3, 0, 2, 1);
            for (int place = 0; place < 4; place++) {
                due("whatever their kind: place " + place, x.ranked(place), place);
            }
            x.groups(3, 15);
            x.reserve(1, 0, 5);
            due("whatever their groups", x.ranked(3), 3);
        });
        says("there are seats of several kinds, and within each kind some seats are reserved for groups, which can overlap.",
            () -> {
                for (int kind = 0; kind < 4; kind++) {
                    KeptSeats x = withKinds(kind, kind, kind);
                    x.groups(1, 3);
                    x.groups(2, 1);
                    x.seats(kind, 2);
                    x.reserve(kind, 0, 1);
                    x.reserve(kind, 1, 1);
                    due("no group, kind " + kind, x.seat(0), NONE);
                    due("both groups, kind " + kind, x.counted(1), 1);
                    due("one group, kind " + kind, x.counted(2), 0);
                }
            });
    }

    private void answers() {
        says("The class computes who gets a seat by several rules, to which reserved seats the applicants are counted and in how "
            + "many ways, how seats that remain are passed on, what would be needed to get a seat, and envy between applicants;",
            () -> {
                KeptSeats x = withGroups(3, 1, 2);
                x.seats(0, 2);
                x.reserve(0, 0, 1);
                x.reserve(0, 1, 1);
                due("by fill", x.by(0, 0), 1 | 2);
                due("group by group", x.by(1, 0), 1 | 4);
                due("counted to group 1, so that the next can be to group 0", x.counted(0), 1);
                due("counted to group 0", x.counted(1), 0);
                due("in one way", x.ways(0), 1);
                due("needed: a mark", x.threshold(2), 90);
                due("needed: no group is enough", x.claim(2), NONE);
                due("no envy by fill", x.envy(), 0);
                x.manner(1);
                due("the second could be counted, too", x.envy(), 1);
                x.seats(1, 1);
                x.heir(1, 0);
                due("a seat of kind 1 is passed on", x.handed(1), 1);
                due("it is one of kind 1", x.seat(1), 1);
            });
        says("and it simulates rounds of offers, with undo.", () -> {
            KeptSeats x = threeForTwo();
            due("a round", x.round(), 2);
            due("an offer", x.ofPerson(2, 4), OFFERED);
            due("undo", x.back(1), 5);
            due("no offer", x.ofPerson(2, 4), WAITING);
            due("no round", x.many(3), 0);
        });
    }

    /** One call of each sort in turn, as the document's methods stand in it; i tells which and with what. */
    private static long call(KeptSeats x, int i) {
        int p = i % 16;
        int kind = i / 7 % 4;
        switch (i % 12) {
            case 0: return x.mark(p, i % 100);
            case 1: return x.round();
            case 2: return x.answer(p, 1 + i % 2);
            case 3: return x.seats(kind, i % 5);
            case 4: return x.by(i / 12 % 3, 0);
            case 5: return x.sure(i / 12 % 2);
            case 6: return x.nearest(0);
            case 7: return x.ways(kind);
            case 8: return x.answer(15 - p, i / 12 % 3);
            case 9: return x.again(p);
            case 10: return x.back(i / 12 % 3);
            default: return x.envy();
        }
    }

    private static long callPlain(PlainSeats y, int i) {
        int p = i % 16;
        int kind = i / 7 % 4;
        switch (i % 12) {
            case 0: return y.mark(p, i % 100);
            case 1: return y.round();
            case 2: return y.answer(p, 1 + i % 2);
            case 3: return y.seats(kind, i % 5);
            case 4: return y.by(i / 12 % 3, 0);
            case 5: return y.sure(i / 12 % 2);
            case 6: return y.nearest(0);
            case 7: return y.ways(kind);
            case 8: return y.answer(15 - p, i / 12 % 3);
            case 9: return y.again(p);
            case 10: return y.back(i / 12 % 3);
            default: return y.envy();
        }
    }

    private void calls() {
        says("An object is used for at most 512 calls after it has been made;", () -> {
            KeptSeats x = new KeptSeats();
            PlainSeats y = new PlainSeats();
            for (int p = 0; p < 7; p++) {
                due("call " + p, x.enter(p * 13, p, p % 4, p), y.enter(p * 13, p, p % 4, p));
            }
            for (int i = 7; i < CALLS; i++) {
                due("call " + i, call(x, i), callPlain(y, i));
            }
        });
        // What they answer is free, but LANGUAGE.md lets no call throw or fail to end.
        says("what later calls answer is free.", () -> {
            KeptSeats x = full();
            for (int i = 16; i < 20 * CALLS; i++) {
                call(x, i);
            }
            holds("they end", true);
        });
    }
}
