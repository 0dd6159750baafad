import java.io.IOException;
import java.nio.file.Path;
import java.util.ArrayList;
import java.util.List;

/**
 * The document sentence by sentence: each sentence on what the class is, of the description and of the promises has a test of
 * its own, which fails if the sentence does not hold. A sentence without a test fails, too, as does a test whose sentence is
 * not in the document.
 */
public final class SentencesTest {
    private static final Check C = new Check("SentencesTest", 400);

    public static void main(String[] args) throws IOException {
        Sentences sentences = new Sentences(C);
        List<Part> parts = List.of(
            new WhatItIsSentences(sentences), new DescriptionSentences(sentences), new ActSentences(sentences),
            new PersonSentences(sentences), new SeatSentences(sentences), new ChoiceSentences(sentences),
            new OtherwiseSentences(sentences), new RoundSentences(sentences));
        for (Part part : parts) {
            part.tell();
        }
        compare(sentences, new Document(Path.of("../shared/DOC.md")));
        C.end();
    }

    private static void compare(Sentences sentences, Document document) {
        List<String> sections = new ArrayList<>(List.of("What it is", "Description"));
        for (int promise = 1; promise <= 35; promise++) {
            sections.add("Promise " + promise);
        }
        for (String section : sections) {
            List<String> due = document.sentencesOf(section);
            C.holds("the document has a section " + section, !due.isEmpty());
            for (String sentence : due) {
                C.holds(section + " | " + sentence + " | has a test", sentences.saidIn(section).contains(sentence));
            }
            for (String sentence : sentences.saidIn(section)) {
                C.holds(section + " | " + sentence + " | is in the document", due.contains(sentence));
            }
        }
    }
}
