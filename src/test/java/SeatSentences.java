/** Promises 11 to 15: seats, reserved seats, heirs, the rule and the order. */
final class SeatSentences extends Part {
    SeatSentences(Sentences sentences) {
        super(sentences);
    }

    @Override
    void tell() {
        seats();
        reserve();
        heir();
        manner();
        order();
        orderArguments();
    }

    private void seats() {
        in("Promise 11");
        says("Sets the number of seats of a kind.", () -> {
            KeptSeats x = withKinds(3, 3, 3);
            x.seats(3, 2);
            due("is set", x.ofKind(3, 0), 2);
            for (int kind = 0; kind < 3; kind++) {
                due("others stay", x.ofKind(kind, 0), 0);
            }
            due("taken", x.ofKind(3, 1), 2);
            x.seats(3, 1);
            due("fewer", x.ofKind(3, 1), 1);
        });
        says("This is an act.", () -> isAct(Part::threeForTwo, x -> x.seats(0, 3)));
        says("`kind`: 0 to 3", () -> {
            KeptSeats x = new KeptSeats();
            for (int kind = 0; kind < 4; kind++) {
                due("seats of " + kind, x.seats(kind, 6 + kind), 0);
            }
            for (int kind = 0; kind < 4; kind++) {
                due("is set", x.ofKind(kind, 0), 6 + kind);
            }
        });
        says("`n`: the new number, 0 to 9", () -> {
            KeptSeats x = new KeptSeats();
            for (int n = 9; n >= 0; n--) {
                due("seats " + n, x.seats(2, n), n == 9 ? 0 : n + 1);
                due("is set", x.ofKind(2, 0), n);
            }
        });
        says("Returns the previous number;", () -> {
            KeptSeats x = withMarks(50, 40);
            due("0 before", x.seats(0, 9), 0);
            due("9 before", x.seats(0, 9), 9);
            due("9 before", x.seats(0, 2), 9);
            x.round();
            x.answer(0, 2);
            due("2 before, free or not", x.seats(0, 1), 2);
        });
        says("UNKNOWN if there is no such kind;", () -> {
            KeptSeats x = new KeptSeats();
            due("-1", x.seats(-1, 1), UNKNOWN);
            due("4", x.seats(4, 1), UNKNOWN);
            due("far out", x.seats(LOWEST, 1), UNKNOWN);
            due("far out", x.seats(HIGHEST, 1), UNKNOWN);
        });
        says("OUTSIDE if n is out of range.", () -> {
            KeptSeats x = new KeptSeats();
            due("-1", x.seats(0, -1), OUTSIDE);
            due("10", x.seats(0, 10), OUTSIDE);
            due("far out", x.seats(0, LOWEST), OUTSIDE);
            due("far out", x.seats(0, HIGHEST), OUTSIDE);
            due("stays", x.ofKind(0, 0), 0);
        });
    }

    private void reserve() {
        in("Promise 12");
        says("Sets the number of reserved seats of a group in a kind.", () -> {
            KeptSeats x = threeForTwo();
            x.reserve(1, 2, 4);
            due("is set", x.ofKind(1, 12), 4);
            for (int i = 0; i < 16; i++) {
                int due = i == 6 ? 4 : i == 0 ? 1 : 0;
                due("kind " + i / 4 + ", group " + i % 4, x.ofKind(i / 4, 10 + i % 4), due);
            }
            due("kept for 2", x.seat(2), 0);
            x.reserve(0, 0, 0);
            due("not kept for 2", x.seat(2), NONE);
        });
        says("This is an act.", () -> isAct(Part::threeForTwo, x -> x.reserve(0, 0, 0)));
        says("`kind`: 0 to 3", () -> {
            KeptSeats x = new KeptSeats();
            for (int kind = 0; kind < 4; kind++) {
                due("reserve", x.reserve(kind, 1, kind + 2), 0);
            }
            for (int kind = 0; kind < 4; kind++) {
                due("is set", x.ofKind(kind, 11), kind + 2);
            }
        });
        says("`group`: 0 to 3", () -> {
            KeptSeats x = new KeptSeats();
            for (int group = 0; group < 4; group++) {
                due("reserve", x.reserve(2, group, group + 2), 0);
            }
            for (int group = 0; group < 4; group++) {
                due("is set", x.ofKind(2, 10 + group), group + 2);
            }
        });
        says("`n`: the new number, 0 to 5", () -> {
            KeptSeats x = new KeptSeats();
            for (int n = 5; n >= 0; n--) {
                due("reserve " + n, x.reserve(3, 3, n), n == 5 ? 0 : n + 1);
                due("is set", x.ofKind(3, 13), n);
            }
            due("more than seats", x.reserve(3, 3, 5), 0);
        });
        says("Returns the previous number;", () -> {
            KeptSeats x = withGroups(1, 1);
            x.seats(0, 2);
            due("0 before", x.reserve(0, 0, 5), 0);
            due("5 before", x.reserve(0, 0, 5), 5);
            due("5 before", x.reserve(0, 0, 2), 5);
            x.round();
            x.answer(0, 2);
            due("2 before, free or not", x.reserve(0, 0, 1), 2);
        });
        says("UNKNOWN if there is no such kind or group;", () -> {
            KeptSeats x = new KeptSeats();
            due("kind -1", x.reserve(-1, 3, 1), UNKNOWN);
            due("kind 4", x.reserve(4, 0, 1), UNKNOWN);
            due("group -1", x.reserve(1, -1, 1), UNKNOWN);
            due("group 4", x.reserve(0, 4, 1), UNKNOWN);
            due("both", x.reserve(-1, 4, 1), UNKNOWN);
            due("far out", x.reserve(LOWEST, HIGHEST, 1), UNKNOWN);
            due("far out", x.reserve(1 << 30, 0, 1), UNKNOWN);
        });
        says("OUTSIDE if n is out of range.", () -> {
            KeptSeats x = new KeptSeats();
            due("-1", x.reserve(0, 0, -1), OUTSIDE);
            due("6", x.reserve(0, 0, 6), OUTSIDE);
            due("far out", x.reserve(0, 0, LOWEST), OUTSIDE);
            due("far out", x.reserve(0, 0, HIGHEST), OUTSIDE);
            due("stays", x.ofKind(0, 10), 0);
        });
    }

    private void heir() {
        in("Promise 13");
        says("Sets the heir of a kind.", () -> {
            KeptSeats x = withKinds(2, 3);
            x.seats(1, 1);
            x.heir(1, 2);
            due("passed on to 2", x.seat(0), 1);
            x.heir(1, 3);
            due("passed on to 3", x.seat(1), 1);
            due("not to 2", x.seat(0), NONE);
            due("another stays", x.heir(2, 1), NONE);
        });
        says("This is an act.", () -> isAct(() -> {
            KeptSeats x = withKinds(2, 3);
            x.seats(1, 1);
            x.heir(1, 2);
            return x;
        }, x -> x.heir(1, 3)));
        says("`kind`: 1 to 3", () -> {
            KeptSeats x = new KeptSeats();
            for (int kind = 1; kind < 4; kind++) {
                due("heir of " + kind, x.heir(kind, kind - 1), NONE);
            }
            for (int kind = 1; kind < 4; kind++) {
                due("is set", x.heir(kind, NONE), kind - 1);
            }
        });
        says("`h`: the new heir, a kind from 0 to 3 (also the kind itself), or NONE for none", () -> {
            for (int kind = 1; kind < 4; kind++) {
                KeptSeats x = new KeptSeats();
                for (int h = 0; h < 4; h++) {
                    due("heir " + h + " of " + kind, x.heir(kind, h), h == 0 ? NONE : h - 1);
                }
                due("none", x.heir(kind, NONE), 3);
                due("none before", x.heir(kind, NONE), NONE);
            }
            KeptSeats y = withKinds(0, 2);
            y.seats(1, 2);
            y.heir(1, 0);
            due("to kind 0", y.many(2), 2);
            y.heir(1, 1);
            due("to itself", y.many(2), 0);
            y.heir(1, NONE);
            due("to none", y.many(2), 0);
        });
        says("Returns the previous heir, or NONE;", () -> {
            KeptSeats x = new KeptSeats();
            due("none before", x.heir(3, 0), NONE);
            due("0 before", x.heir(3, 3), 0);
            due("3 before", x.heir(3, 3), 3);
            due("3 before", x.heir(3, NONE), 3);
            due("none before", x.heir(3, 1), NONE);
        });
        says("UNKNOWN if kind is not 1 to 3;", () -> {
            KeptSeats x = new KeptSeats();
            due("0", x.heir(0, 1), UNKNOWN);
            due("0, none", x.heir(0, NONE), UNKNOWN);
            due("-1", x.heir(-1, 1), UNKNOWN);
            due("4", x.heir(4, 1), UNKNOWN);
            due("far out", x.heir(LOWEST, 1), UNKNOWN);
            due("far out", x.heir(HIGHEST, 1), UNKNOWN);
        });
        says("OUTSIDE if h is out of range.", () -> {
            KeptSeats x = new KeptSeats();
            int[] wrong = {-1, -2, -8, -10, 4, 9, LOWEST, HIGHEST};
            for (int h : wrong) {
                due("heir " + h, x.heir(1, h), OUTSIDE);
            }
            due("stays", x.heir(1, 2), NONE);
        });
    }

    private void manner() {
        in("Promise 14");
        says("Sets the rule by which applicants are taken.", () -> {
            KeptSeats x = withGroups(0, 3, 1, 2);
            x.seats(0, 2);
            x.reserve(0, 0, 1);
            x.reserve(0, 1, 1);
            int[] second = {2, 3, 1};
            for (int m = 2; m >= 0; m--) {
                x.manner(m);
                due("rule " + m, x.taken(0, 1), second[m]);
            }
        });
        says("This is an act.", () -> isAct(Part::threeForTwo, x -> x.manner(2)));
        says("`m`: 0 to 2", () -> {
            KeptSeats x = new KeptSeats();
            due("2", x.manner(2), 0);
            due("1", x.manner(1), 2);
            due("0", x.manner(0), 1);
        });
        says("Returns the previous rule;", () -> {
            KeptSeats x = new KeptSeats();
            due("0 before", x.manner(0), 0);
            due("0 before", x.manner(2), 0);
            due("2 before", x.manner(2), 2);
            due("2 before", x.manner(1), 2);
            due("1 before", x.manner(0), 1);
        });
        says("OUTSIDE if m is out of range.", () -> {
            KeptSeats x = new KeptSeats();
            due("-1", x.manner(-1), OUTSIDE);
            due("3", x.manner(3), OUTSIDE);
            due("far out", x.manner(LOWEST), OUTSIDE);
            due("far out", x.manner(HIGHEST), OUTSIDE);
            due("stays", x.manner(1), 0);
        });
    }

    /** Two of each kind, and a seat of each kind. */
    private static KeptSeats eightForFour() {
        KeptSeats x = withKinds(1, 2, 3, 0, 1, 2, 3, 0);
        for (int kind = 0; kind < 4; kind++) {
            x.seats(kind, 1);
        }
        return x;
    }

    private void order() {
        in("Promise 15");
        says("Sets the order of the kinds.", () -> {
            KeptSeats x = eightForFour();
            due("0 first: the best of kind 1 has it", x.seat(0), 0);
            x.order(1, 0, 2, 3);
            due("1 first", x.seat(0), 1);
            due("then 0", x.seat(1), 0);
            x.order(2, 1, 0, 3);
            due("1 and 2 first", x.seat(1), 2);
            due("then 0", x.seat(2), 0);
            x.order(3, 2, 1, 0);
            due("0 last", x.seat(3), 0);
        });
        says("This is an act.", () -> isAct(() -> {
            KeptSeats x = withKinds(1, 2);
            x.seats(0, 1);
            x.seats(1, 1);
            return x;
        }, x -> x.order(1, 0, 2, 3)));
        says("`first`: the first kind", () -> {
            for (int kind = 1; kind < 4; kind++) {
                KeptSeats x = eightForFour();
                x.order(kind, 0, kind % 3 + 1, (kind + 1) % 3 + 1);
                due(kind + " is before 0", x.seat(kind - 1), kind);
            }
            KeptSeats x = eightForFour();
            x.order(0, 3, 2, 1);
            due("0 is first", x.seat(0), 0);
        });
        says("`second`: the second kind", () -> {
            KeptSeats x = eightForFour();
            x.order(1, 2, 0, 3);
            due("2 is before 0", x.seat(1), 2);
            x.order(1, 3, 0, 2);
            due("3 is before 0", x.seat(2), 3);
            due("0 is before 2", x.seat(1), 0);
            x.order(3, 1, 0, 2);
            due("1 is before 0", x.seat(0), 1);
            x.order(3, 0, 1, 2);
            due("0 is before 1", x.seat(0), 0);
        });
        says("`third`: the third kind", () -> {
            KeptSeats x = eightForFour();
            x.order(1, 2, 3, 0);
            due("3 is before 0", x.seat(2), 3);
            x.order(1, 2, 0, 3);
            due("0 is before 3", x.seat(2), 0);
            x.order(3, 2, 0, 1);
            due("0 is before 1", x.seat(0), 0);
        });
    }

    private void orderArguments() {
        says("`fourth`: the fourth kind", () -> {
            KeptSeats x = eightForFour();
            x.order(3, 2, 1, 0);
            due("0 is last", x.seat(3), 0);
            x.order(3, 2, 0, 1);
            due("1 is last: its next one is taken", x.seat(4), 1);
            x.order(1, 3, 0, 2);
            due("2 is last: its next one is taken", x.seat(5), 2);
            x.order(1, 2, 0, 3);
            due("3 is last: its next one is taken", x.seat(6), 3);
        });
        says("Returns 1;", () -> {
            KeptSeats x = new KeptSeats();
            int orders = 0;
            for (int code = 0; code < 256; code++) {
                orders += x.order(code >> 6, code >> 4 & 3, code >> 2 & 3, code & 3) == 1 ? 1 : 0;
            }
            due("of 24 orders", orders, 24);
            due("the same again", x.order(3, 2, 1, 0), 1);
            due("the same again", x.order(3, 2, 1, 0), 1);
        });
        says("OUTSIDE if the arguments are not the kinds 0 to 3, each of them once.", () -> {
            KeptSeats x = eightForFour();
            int[][] wrong = {{0, 0, 0, 0}, {0, 1, 2, 2}, {0, 1, 1, 3}, {3, 1, 2, 3}, {0, 0, 2, 3}, {2, 1, 2, 3}, {0, 3, 2, 3},
                {1, 2, 3, 4}, {4, 1, 2, 3}, {0, 4, 2, 3}, {0, 1, 4, 3}, {-1, 0, 1, 2}, {0, -1, 2, 3}, {0, 1, -1, 3}, {0, 1, 2, -1},
                {0, 1, 2, NONE}, {0, 1, 6, -1}, {32, 33, 34, 35}, {0, 1, 2, 35}, {0, 1, 34, 3}, {0, 33, 2, 3}, {32, 1, 2, 3},
                {LOWEST, 1, 2, 3}, {0, 1, 2, HIGHEST}, {0, 0, 3, 3}, {1, 1, 2, 2}, {-3, 1, 2, 3}};
            int acts = x.many(4);
            for (int[] a : wrong) {
                due("order " + a[0] + ", " + a[1] + ", " + a[2] + ", " + a[3], x.order(a[0], a[1], a[2], a[3]), OUTSIDE);
            }
            due("no act", x.many(4), acts);
            due("0 is still first", x.seat(0), 0);
        });
    }
}
