import java.io.IOException;
import java.lang.reflect.Method;
import java.lang.reflect.Modifier;
import java.nio.charset.StandardCharsets;
import java.nio.file.Files;
import java.nio.file.Path;
import java.util.ArrayList;
import java.util.List;
import java.util.Map;
import java.util.regex.Matcher;
import java.util.regex.Pattern;

/** README.md: its example answers what stands beside each call, and its table has each method once. */
public final class ReadmeTest {
    private static final Check C = new Check("ReadmeTest");
    private static final Map<String, Integer> NAMES = Map.of(
        "UNKNOWN", KeptSeats.UNKNOWN, "OUTSIDE", KeptSeats.OUTSIDE, "STATE", KeptSeats.STATE, "FULL", KeptSeats.FULL,
        "NONE", KeptSeats.NONE);

    private final List<String> calls = new ArrayList<>();
    private final List<String> answers = new ArrayList<>();
    private int next = 0;

    public static void main(String[] args) throws IOException {
        List<String> lines = Files.readAllLines(Path.of("README.md"), StandardCharsets.UTF_8);
        ReadmeTest t = new ReadmeTest();
        t.read(lines);
        t.example();
        table(lines);
        C.end();
    }

    /** Keeps the example's calls, without white space, and the first word beside each. */
    private void read(List<String> lines) {
        for (String line : lines) {
            Matcher m = Pattern.compile("(?:int \\w+ = )?office\\.(.*);\\s*// (-?\\w+).*").matcher(line);
            if (m.matches()) {
                calls.add(m.group(1).replace(" ", ""));
                answers.add(m.group(2));
            }
            C.holds("a call with its answer: " + line, m.matches() || !line.contains("office."));
        }
    }

    private int due(String call, int got) {
        boolean isNext = next < calls.size() && calls.get(next).equals(call);
        C.holds("the next call of the example is " + call, isNext);
        if (isNext) {
            String answer = answers.get(next);
            C.due(call, got, NAMES.containsKey(answer) ? NAMES.get(answer) : Integer.parseInt(answer));
            next++;
        }
        return got;
    }

    private void example() {
        KeptSeats office = new KeptSeats();
        int ann = due("enter(90,1,0,0b00)", office.enter(90, 1, 0, 0b00));
        int bob = due("enter(80,2,0,0b00)", office.enter(80, 2, 0, 0b00));
        int eve = due("enter(70,3,0,0b01)", office.enter(70, 3, 0, 0b01));
        due("seats(0,2)", office.seats(0, 2));
        due("reserve(0,0,1)", office.reserve(0, 0, 1));
        due("seat(ann)", office.seat(ann));
        due("seat(bob)", office.seat(bob));
        due("counted(eve)", office.counted(eve));
        due("threshold(bob)", office.threshold(bob));
        due("claim(bob)", office.claim(bob));
        due("by(2,0)", office.by(2, 0));
        due("round()", office.round());
        due("answer(eve,2)", office.answer(eve, 2));
        due("ofKind(0,0)", office.ofKind(0, 0));
        due("answer(bob,1)", office.answer(bob, 1));
        due("back(2)", office.back(2));
        due("ofPerson(eve,4)", office.ofPerson(eve, 4));
        C.due("calls of the example", next, calls.size());
    }

    private static void table(List<String> lines) {
        StringBuilder rows = new StringBuilder();
        for (String line : lines) {
            rows.append(line.startsWith("|") ? line : "");
        }
        for (Method m : KeptSeats.class.getDeclaredMethods()) {
            if (Modifier.isPublic(m.getModifiers())) {
                C.due("times of " + m.getName() + " in the table", rows.toString().split("`" + m.getName() + "`", -1).length - 1, 1);
            }
        }
    }
}
