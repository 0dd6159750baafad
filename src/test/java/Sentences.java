import java.util.LinkedHashMap;
import java.util.LinkedHashSet;
import java.util.Map;
import java.util.Set;

/** Runs the tests of the document's sentences, and keeps which sentences have one. */
final class Sentences {
    private final Check check;
    private final Map<String, Set<String>> said = new LinkedHashMap<>();
    private String section = "";
    private String sentence = "";
    private int looks = 0;
    private boolean failed = false;

    Sentences(Check check) {
        this.check = check;
    }

    void in(String name) {
        section = name;
    }

    /** A sentence of the section, word by word, and the test that fails if it does not hold. */
    void says(String words, Runnable test) {
        sentence = words;
        looks = 0;
        failed = false;
        boolean isNew = said.computeIfAbsent(section, s -> new LinkedHashSet<>()).add(words);
        check.holds(place() + " is said once", isNew);
        try {
            test.run();
        } catch (RuntimeException e) {
            check.holds(place() + " is tested without " + e, false);
        }
        check.holds(place() + " is looked at", looks > 0);
    }

    /** Of a sentence that does not hold, the first wrong answer is told. */
    void due(String call, long got, long want) {
        looks++;
        if (!failed) {
            check.due(place() + " | " + call, got, want);
        }
        failed |= got != want;
    }

    void holds(String what, boolean is) {
        due(what, is ? 1 : 0, 1);
    }

    Set<String> saidIn(String name) {
        return said.getOrDefault(name, Set.of());
    }

    private String place() {
        return section + " | " + sentence;
    }
}
