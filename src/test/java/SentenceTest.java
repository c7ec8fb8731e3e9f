import java.io.IOException;
import java.util.Set;

/**
 * Each sentence of the document by a test of its own, and that no sentence is without one: what is
 * quoted here must stand in ../shared/DOC.md, and what stands there must be quoted here.
 */
public final class SentenceTest {
    /** They tell nothing that a call could show, or are told by the sentences behind them. */
    private static final Set<String> WITHOUT_TEST = Set.of(
            "What it is | A sheet of cells with formulas that is brought up to date by changes: formulas that read other "
            + "cells, some only if they are needed, so that what a cell reads changes by values; cells that are run only "
            + "if something that they read has changed, heights, cells in cycles that are errors or are gone over in "
            + "rounds, what each was run by, formulas as texts with the place of the first fault, copies with shifted "
            + "cells, and what would be by another number.",
            "The public face | }",
            "Terms | Ahead of the calls type, clearText, fault the interface says: ---- texts.",
            "Terms | Ahead of the calls put, copy, drop, waitingAt, update, rounds the interface says: ---- edits.",
            "Terms | Ahead of the calls value, cellOf, letterAt, readAt, readerAt the interface says: ---- cells.",
            "Terms | Ahead of the calls ranAt, changedAt, cause, chainAt, whatIf, count, undo the interface says: ---- "
            + "what was run.",
            "Not promised | How the state is held inside the object is free, as are the speed of each call, the text of "
            + "toString and the behaviour of equals and hashCode.",
            "Not promised | Use of one object from several threads at once is not promised to be safe.",
            "Not promised | Nothing is promised beyond the answers and state changes described above, and nothing about "
            + "an object after its 512th call.");

    private SentenceTest() {
    }

    public static void main(String[] args) throws IOException {
        Sentences all = new Sentences();
        FaceSentences.hold(all);
        FormulaSentences.hold(all);
        ValueSentences.hold(all);
        CycleSentences.hold(all);
        RunSentences.hold(all);
        TextSentences.hold(all);
        EditSentences.hold(all);
        CellSentences.hold(all);
        RanSentences.hold(all);
        compareWithDocument(all.held());
        System.out.println("SentenceTest: " + all.held().size() + " sentences");
        Check.finish("SentenceTest");
    }

    private static void compareWithDocument(Set<String> held) throws IOException {
        if (!Document.isThere()) {
            System.out.println("SentenceTest: no ../shared/DOC.md to compare with");
            return;
        }
        for (String sentence : Document.sentences()) {
            Check.due("a test for: " + sentence, held.contains(sentence) || WITHOUT_TEST.contains(sentence));
        }
        for (String sentence : held) {
            Check.due("in the document: " + sentence, Document.sentences().contains(sentence));
        }
    }
}
