import java.util.LinkedHashSet;
import java.util.Set;

/** Runs a test for each sentence of the document, and remembers which sentences have one. */
final class Sentences {
    private final Set<String> held = new LinkedHashSet<>();
    private String heading = "";

    /** The heading that the next sentences stand under. */
    void under(String heading) {
        this.heading = heading;
    }

    void hold(String sentence, Runnable test) {
        String name = Document.named(heading, sentence);
        Check.about(name);
        int before = Check.answers();
        test.run();
        Check.due("a test that asks", Check.answers() > before);
        Check.due("one test for a sentence", held.add(name));
        Check.about("");
    }

    Set<String> held() {
        return held;
    }
}
