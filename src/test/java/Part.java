import java.util.ArrayList;
import java.util.List;
import java.util.function.Consumer;
import java.util.function.Supplier;

/** A part of the document's sentences; beside it what the parts share. */
abstract class Part {
    static final int UNKNOWN = -1, OUTSIDE = -2, STATE = -3, FULL = -4, NONE = -9;
    static final int LOWEST = Integer.MIN_VALUE, HIGHEST = Integer.MAX_VALUE;
    static final int WAITING = 0, OFFERED = 1, FLOATING = 2, FROZEN = 3, OUT = 4;

    private final Sentences sentences;

    Part(Sentences sentences) {
        this.sentences = sentences;
    }

    abstract void tell();

    final void in(String section) {
        sentences.in(section);
    }

    final void says(String sentence, Runnable test) {
        sentences.says(sentence, test);
    }

    final void due(String call, long got, long want) {
        sentences.due(call, got, want);
    }

    final void holds(String what, boolean is) {
        sentences.holds(what, is);
    }

    /** An office with one applicant a mark: tickets 0, kind 0, no groups. */
    static KeptSeats withMarks(int... marks) {
        KeptSeats x = new KeptSeats();
        for (int m : marks) {
            x.enter(m, 0, 0, 0);
        }
        return x;
    }

    /** An office with one applicant for each set of groups: of kind 0, ranked in this order. */
    static KeptSeats withGroups(int... sets) {
        KeptSeats x = new KeptSeats();
        for (int i = 0; i < sets.length; i++) {
            x.enter(90 - i, 0, 0, sets[i]);
        }
        return x;
    }

    /** An office with one applicant for each kind that is given: without groups, ranked in this order. */
    static KeptSeats withKinds(int... kinds) {
        KeptSeats x = new KeptSeats();
        for (int i = 0; i < kinds.length; i++) {
            x.enter(90 - i, 0, kinds[i], 0);
        }
        return x;
    }

    /** An office with 16 applicants, ranked by number. */
    static KeptSeats full() {
        KeptSeats x = new KeptSeats();
        for (int p = 0; p < 16; p++) {
            x.enter(99 - p, p, p % 4, p);
        }
        return x;
    }

    /** An office with an applicant of each standing, whose number is the standing; all have the mark 50. */
    static KeptSeats eachStanding() {
        KeptSeats x = withMarks(50, 50, 50, 50, 50);
        x.ticket(0, 9);
        x.seats(0, 4);
        x.round();
        x.answer(2, 1);
        x.answer(3, 2);
        x.answer(4, 0);
        return x;
    }

    /** Two seats of kind 0, one of them for group 0; the third by rank is the only one with the group. */
    static KeptSeats threeForTwo() {
        KeptSeats x = new KeptSeats();
        x.enter(90, 0, 1, 0);
        x.enter(80, 0, 1, 0);
        x.enter(70, 0, 2, 1);
        x.seats(0, 2);
        x.reserve(0, 0, 1);
        return x;
    }

    /** A call that returns no error is an act: it is one more that can be taken back, and then all is as before. */
    final void isAct(Supplier<KeptSeats> made, Consumer<KeptSeats> call) {
        KeptSeats x = made.get();
        List<Long> before = look(x);
        int acts = x.many(4);
        call.accept(x);
        due("acts that can be taken back", x.many(4), acts + 1);
        due("back(1)", x.back(1), acts);
        holds("all is as before it", look(x).equals(before));
    }

    /** A call changes nothing and is no act. */
    final void isNoAct(Supplier<KeptSeats> made, Consumer<KeptSeats> call) {
        KeptSeats x = made.get();
        List<Long> before = look(x);
        call.accept(x);
        holds("nothing is different", look(x).equals(before));
    }

    /** What can be seen of an office with a few applicants and fewer than 24 acts, in some 200 calls. */
    static List<Long> look(KeptSeats x) {
        List<Long> seen = new ArrayList<>();
        for (int p = 0; p < x.many(0); p++) {
            for (int what = 0; what < 6; what++) {
                seen.add((long) x.ofPerson(p, what));
            }
            for (int what = 0; what < 3; what++) {
                seen.add((long) x.note(p, what));
            }
            seen.add((long) x.seat(p));
            seen.add((long) x.counted(p));
            seen.add((long) x.handed(p));
        }
        for (int what = 0; what < 8; what++) {
            seen.add((long) x.many(what));
        }
        for (int kind = 0; kind < 4; kind++) {
            seen.add(x.ways(kind));
            seen.add(previous(x, x.seats(kind, 0)));
            for (int group = 0; group < 4; group++) {
                seen.add(previous(x, x.reserve(kind, group, 0)));
            }
        }
        for (int kind = 1; kind < 4; kind++) {
            seen.add(previous(x, x.heir(kind, NONE)));
        }
        seen.add(previous(x, x.manner(0)));
        return seen;
    }

    /** What an act returned that has been made only to see it. */
    private static long previous(KeptSeats x, int answer) {
        x.back(1);
        return answer;
    }
}
