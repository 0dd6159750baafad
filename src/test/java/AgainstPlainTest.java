import java.util.Random;

/**
 * Runs of calls on KeptSeats and on PlainSeats, with right and wrong arguments, drawn from fixed seeds; each answer
 * has to be the same. Argument 0 sets how many times as many runs are made (1 if there is none).
 */
public final class AgainstPlainTest {
    private static final String[] NAMES = {
        "enter", "mark", "ticket", "kind", "groups", "ofPerson", "ranked", "above", "alike", "seats", "reserve", "heir",
        "manner", "order", "seat", "counted", "handed", "taken", "ofKind", "ways", "by", "sure", "threshold", "claim",
        "successor", "passed", "nearest", "envy", "round", "answer", "again", "note", "back", "many"};
    private static final int[] EDGES = {
        -1, -2, -3, -9, -10, 4, 5, 6, 9, 10, 14, 15, 16, 24, 25, 99, 100, 999, 1000, Integer.MIN_VALUE, Integer.MAX_VALUE};

    private final Check check = new Check("AgainstPlainTest");
    private final int[] a = new int[4];
    private Random random;
    private int wrongPercent;

    public static void main(String[] args) {
        int times = args.length > 0 ? Integer.parseInt(args[0]) : 1;
        int salt = args.length > 1 ? Integer.parseInt(args[1]) : 0;
        AgainstPlainTest t = new AgainstPlainTest();
        for (int seed = 0; seed < 150 * times; seed++) {
            t.run(salt + seed, 3 + seed % 5, 485, 100);
        }
        for (int seed = 0; seed < 150 * times; seed++) {
            t.run(salt + 10_000_000 + seed, 16, 300, 3);
        }
        for (int seed = 0; seed < 40 * times; seed++) {
            t.run(salt + 20_000_000 + seed, 9, 250, 60);
        }
        t.check.end();
    }

    /** A run with some of the people entered first; dear: percentage of the drawn dear calls that are made. */
    private void run(int seed, int people, int calls, int dear) {
        random = new Random(seed);
        wrongPercent = random.nextInt(3) * 4;
        KeptSeats x = new KeptSeats();
        PlainSeats y = new PlainSeats();
        int before = check.wrong();
        int spread = 1 + random.nextInt(100);
        int kinds = 1 + random.nextInt(4);
        for (int p = 0; p < people; p++) {
            set(random.nextInt(spread), random.nextInt(3), random.nextInt(kinds), random.nextInt(16));
            both(seed, p, x, y, 0);
        }
        for (int kind = 0; kind < 4; kind++) {
            set(kind, random.nextInt(1 + people / 2 + random.nextInt(2)), 0, 0);
            both(seed, -1, x, y, 9);
            for (int group = 0; group < 4; group++) {
                set(kind, group, random.nextInt(random.nextInt(2) == 0 ? 2 : 4), 0);
                both(seed, -1, x, y, 10);
            }
        }
        for (int i = 0; i < calls && check.wrong() == before; i++) {
            int call = random.nextInt(100) < 30 ? changing(people) : random.nextInt(NAMES.length);
            draw(call, people);
            boolean isDear = call == 21 || call == 22 || call == 23 || call == 26;
            boolean growing = call == 0 && y.many(0) >= people && people < 16;
            if (!growing && (!isDear || random.nextInt(100) < dear)) {
                both(seed, i, x, y, call);
            }
        }
    }

    /** The calls that carry the rounds on, drawn more often than the others. */
    private int changing(int people) {
        int[] calls = {28, 29, 29, 29, 30, 11, 32, 9, 10, 12};
        return calls[random.nextInt(calls.length)];
    }

    private void set(int first, int second, int third, int fourth) {
        a[0] = first;
        a[1] = second;
        a[2] = third;
        a[3] = fourth;
    }

    private void draw(int call, int people) {
        int p = random.nextInt(people);
        int kind = random.nextInt(4);
        switch (call) {
            case 0: set(random.nextInt(100), random.nextInt(1000), kind, random.nextInt(16)); break;
            case 1: set(p, random.nextInt(100), 0, 0); break;
            case 2: set(p, random.nextInt(1000), 0, 0); break;
            case 3: set(p, kind, 0, 0); break;
            case 4: set(p, random.nextInt(16), 0, 0); break;
            case 5: set(p, random.nextInt(6), 0, 0); break;
            case 6: set(random.nextInt(16), 0, 0, 0); break;
            case 7: case 8: set(random.nextInt(100), 0, 0, 0); break;
            case 9: set(kind, random.nextInt(random.nextInt(4) == 0 ? 10 : 4), 0, 0); break;
            case 10: set(kind, random.nextInt(4), random.nextInt(random.nextInt(3) == 0 ? 6 : 3), 0); break;
            case 11: set(1 + random.nextInt(3), random.nextInt(6) == 0 ? -9 : kind, 0, 0); break;
            case 12: set(random.nextInt(3), 0, 0, 0); break;
            case 13: drawOrder(); break;
            case 17: set(kind, random.nextInt(9), 0, 0); break;
            case 18: set(kind, random.nextInt(3) * 10 + random.nextInt(4), 0, 0);
                if (random.nextInt(4) == 0) {
                    a[1] = 3 + random.nextInt(3);
                }
                break;
            case 19: set(kind, 0, 0, 0); break;
            case 20: set(random.nextInt(3), random.nextInt(4), 0, 0); break;
            case 21: set(random.nextInt(2), 0, 0, 0); break;
            case 26: set(random.nextInt(random.nextInt(2) == 0 ? 3 : 16), 0, 0, 0); break;
            case 29: case 31: set(p, random.nextInt(3), 0, 0); break;
            case 32: set(random.nextInt(random.nextInt(5) == 0 ? 25 : 4), 0, 0, 0); break;
            case 33: set(random.nextInt(8), 0, 0, 0); break;
            default: set(p, 0, 0, 0); break;
        }
        while (random.nextInt(100) < wrongPercent) {
            a[random.nextInt(4)] = EDGES[random.nextInt(EDGES.length)];
        }
    }

    private void drawOrder() {
        set(0, 1, 2, 3);
        for (int i = 3; i > 0; i--) {
            int j = random.nextInt(i + 1);
            int held = a[i];
            a[i] = a[j];
            a[j] = held;
        }
    }

    private void both(int seed, int i, KeptSeats x, PlainSeats y, int call) {
        String text = "seed " + seed + ", call " + i + ": " + NAMES[call] + "(" + a[0] + ", " + a[1] + ", " + a[2] + ", "
            + a[3] + ")";
        check.due(text, ask(x, call), askPlain(y, call));
    }

    private long ask(KeptSeats x, int call) {
        switch (call) {
            case 0: return x.enter(a[0], a[1], a[2], a[3]);
            case 1: return x.mark(a[0], a[1]);
            case 2: return x.ticket(a[0], a[1]);
            case 3: return x.kind(a[0], a[1]);
            case 4: return x.groups(a[0], a[1]);
            case 5: return x.ofPerson(a[0], a[1]);
            case 6: return x.ranked(a[0]);
            case 7: return x.above(a[0]);
            case 8: return x.alike(a[0]);
            case 9: return x.seats(a[0], a[1]);
            case 10: return x.reserve(a[0], a[1], a[2]);
            case 11: return x.heir(a[0], a[1]);
            case 12: return x.manner(a[0]);
            case 13: return x.order(a[0], a[1], a[2], a[3]);
            case 14: return x.seat(a[0]);
            case 15: return x.counted(a[0]);
            case 16: return x.handed(a[0]);
            case 17: return x.taken(a[0], a[1]);
            case 18: return x.ofKind(a[0], a[1]);
            case 19: return x.ways(a[0]);
            case 20: return x.by(a[0], a[1]);
            case 21: return x.sure(a[0]);
            case 22: return x.threshold(a[0]);
            case 23: return x.claim(a[0]);
            case 24: return x.successor(a[0]);
            case 25: return x.passed(a[0]);
            case 26: return x.nearest(a[0]);
            case 27: return x.envy();
            case 28: return x.round();
            case 29: return x.answer(a[0], a[1]);
            case 30: return x.again(a[0]);
            case 31: return x.note(a[0], a[1]);
            case 32: return x.back(a[0]);
            default: return x.many(a[0]);
        }
    }

    private long askPlain(PlainSeats y, int call) {
        switch (call) {
            case 0: return y.enter(a[0], a[1], a[2], a[3]);
            case 1: return y.mark(a[0], a[1]);
            case 2: return y.ticket(a[0], a[1]);
            case 3: return y.kind(a[0], a[1]);
            case 4: return y.groups(a[0], a[1]);
            case 5: return y.ofPerson(a[0], a[1]);
            case 6: return y.ranked(a[0]);
            case 7: return y.above(a[0]);
            case 8: return y.alike(a[0]);
            case 9: return y.seats(a[0], a[1]);
            case 10: return y.reserve(a[0], a[1], a[2]);
            case 11: return y.heir(a[0], a[1]);
            case 12: return y.manner(a[0]);
            case 13: return y.order(a[0], a[1], a[2], a[3]);
            case 14: return y.seat(a[0]);
            case 15: return y.counted(a[0]);
            case 16: return y.handed(a[0]);
            case 17: return y.taken(a[0], a[1]);
            case 18: return y.ofKind(a[0], a[1]);
            case 19: return y.ways(a[0]);
            case 20: return y.by(a[0], a[1]);
            case 21: return y.sure(a[0]);
            case 22: return y.threshold(a[0]);
            case 23: return y.claim(a[0]);
            case 24: return y.successor(a[0]);
            case 25: return y.passed(a[0]);
            case 26: return y.nearest(a[0]);
            case 27: return y.envy();
            case 28: return y.round();
            case 29: return y.answer(a[0], a[1]);
            case 30: return y.again(a[0]);
            case 31: return y.note(a[0], a[1]);
            case 32: return y.back(a[0]);
            default: return y.many(a[0]);
        }
    }
}
