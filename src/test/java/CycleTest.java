/** Cells in cycles: as errors, and gone over in rounds. */
public final class CycleTest {
    private CycleTest() {
    }

    public static void main(String[] args) {
        errors();
        neededOnly();
        behindErrors();
        rounds();
        settling();
        errorsInRounds();
        readsOfTheLastRound();
        leavingAndEntering();
        sameValuesInCycles();
        longRows();
        Check.finish("CycleTest");
    }

    private static void errors() {
        Sheet s = new Sheet();
        s.set("a1", "a1", "b1", "c1+1", "c1", "d1+b1", "d1", "5", "e1", "d1+b1+d1", "f1", "if(0,b1,d1)");
        for (String cell : new String[] {"a1", "b1", "c1", "e1"}) {
            s.dueError(cell, 4);
            Check.due("cycle " + cell, s.of(cell, 7), 1);
            Check.due("height " + cell, s.of(cell, 1), Check.MISSING);
        }
        s.dueValue("f1", 5);
        Check.due("cycle f1", s.of("f1", 7), 0);
        Check.due("height f1", s.of("f1", 1), 1);
        s.dueReads("a1", "a1");
        s.dueReads("b1", "c1");
        s.dueReads("c1", "d1", "b1");
        s.dueReads("e1", "d1", "b1");
        s.dueReaders("b1", "c1", "e1");
        s.dueRan("d1", "f1", "a1", "b1", "c1", "e1");
        s.dueCount(4, 0);
        s.dueCount(5, 0);
        s.dueCount(6, 4);
        s.dueCount(7, 4);
        s.dueCount(8, 1);
    }

    private static void neededOnly() {
        Sheet s = new Sheet();
        s.set("a1", "if(c1,b1,7)", "b1", "if(c1,8,a1)");
        s.dueValue("a1", 7);
        s.dueValue("b1", 7);
        s.dueCount(6, 0);
        s.set("c1", "1");
        s.dueValue("a1", 8);
        s.dueValue("b1", 8);
        Check.due("height a1", s.of("a1", 1), 2);
        s.set("b1", "if(c1,a1,8)");
        s.dueError("a1", 4);
        s.dueCause("a1", "b1");
        s.dueCause("b1", "b1");
    }

    private static void behindErrors() {
        Sheet s = new Sheet();
        s.set("a1", "div(1,0)+b1", "b1", "a1", "c1", "at(9,9)*c1");
        s.dueError("a1", 2);
        s.dueError("b1", 2);
        s.dueError("c1", 3);
        s.dueCount(6, 0);
        s.dueCount(5, 1);
        s.dueReads("c1");
    }

    private static void rounds() {
        Sheet s = new Sheet();
        s.x.rounds(3);
        s.set("a1", "b1+1", "b1", "a1+c1", "c1", "10", "d1", "a1*2");
        s.dueValue("a1", 23);
        s.dueValue("b1", 33);
        s.dueValue("d1", 46);
        s.dueCount(4, 3);
        s.dueCount(5, 0);
        s.dueReads("b1", "a1", "c1");
        s.dueReads("a1", "b1");
        s.dueError("a1", 0);
        Check.due("height in rounds", s.of("a1", 1), Check.MISSING);
        Check.due("runs, not rounds", s.of("a1", 4), 1);
        s.set("c1", "20");
        s.dueValue("b1", 63);
        s.dueCause("b1", "a1");
        s.dueCause("a1", "b1");
        s.dueCause("d1", "a1");
        s.dueChain("d1", "a1", "b1");
        s.dueChain("a1", "b1");
        s.dueRan("c1", "a1", "b1", "d1");
    }

    private static void settling() {
        Sheet s = new Sheet();
        s.x.rounds(5);
        s.dueCount(4, 0);
        s.dueCount(5, 1);
        s.set("a1", "min(a1+1,3)");
        s.dueValue("a1", 3);
        s.dueCount(4, 4);
        s.dueCount(5, 1);
        s.x.rounds(4);
        s.dueCount(4, 4);
        s.dueCount(5, 1);
        s.x.rounds(3);
        s.dueValue("a1", 3);
        s.dueCount(4, 3);
        s.dueCount(5, 0);
        s.x.rounds(1);
        s.dueValue("a1", 1);
        s.dueCount(4, 1);
        s.set("a1", "4");
        s.dueCount(4, 0);
        s.dueCount(5, 1);
        s.dueCount(6, 0);
    }

    private static void errorsInRounds() {
        Sheet s = new Sheet();
        s.x.rounds(1);
        s.set("a1", "div(6,b1)", "b1", "if(b1,a1,1)");
        s.dueError("a1", 2);
        s.dueValue("b1", 1);
        s.x.rounds(2);
        s.dueError("a1", 0);
        s.dueValue("a1", 6);
        s.dueValue("b1", 6);
        s = new Sheet();
        s.x.rounds(8);
        s.set("a1", "div(6,a1)", "b1", "a1+1", "c1", "1000*1000*c1+999*1000+1");
        s.dueError("a1", 2);
        s.dueError("b1", 2);
        s.dueError("c1", 1);
        s.dueCount(6, 3);
        s.dueCount(7, 3);
        s.dueCount(5, 1);
        s.dueCount(4, 3);
    }

    /** The first round reads e1, the second one f1. */
    private static void readsOfTheLastRound() {
        Sheet s = new Sheet();
        s.x.rounds(1);
        s.set("a1", "if(a1,f1,e1+1)");
        s.dueReads("a1", "a1", "e1");
        s.dueValue("a1", 1);
        s.x.rounds(2);
        s.dueReads("a1", "a1", "f1");
        s.dueValue("a1", 0);
        Check.due("an edit of what was not read then", s.set("e1", "5"), 2);
        s.dueCause("a1", "a1");
        s.set("f1", "3");
        s.dueCause("a1", "a1");
        Check.due("a1 changed first", s.of("a1", 6), 1);
        s.x.rounds(0);
        s.dueReads("a1", "a1");
        s.dueError("a1", 4);
    }

    private static void leavingAndEntering() {
        Sheet s = new Sheet();
        s.set("a1", "b1", "b1", "a1", "c1", "b1", "d1", "7");
        s.set("a1", "d1");
        s.dueRan("a1", "b1", "c1");
        s.dueChanged("a1", "b1", "c1");
        s.dueCause("b1", "a1");
        s.dueCause("c1", "b1");
        s.dueChain("c1", "b1", "a1");
        s.dueCount(6, 0);
        s.set("a1", "b1");
        s.dueRan("a1", "b1", "c1");
        s.dueError("c1", 4);
        Check.due("d1 is not run", s.of("d1", 4), 1);
        s.set("d1", "8");
        s.dueRan("d1", "a1", "b1", "c1");
        s.dueChanged("d1");
        s.dueCause("a1", "a1");
        s.dueChain("c1");
    }

    /** A cell is run for its cycle alone, though nothing that it read has changed. */
    private static void sameValuesInCycles() {
        Sheet s = new Sheet();
        s.x.rounds(4);
        s.set("a1", "0", "b1", "a1");
        s.set("a1", "b1");
        s.dueRan("a1", "b1");
        s.dueChanged();
        s.dueCause("b1", "b1");
        s.set("a1", "0");
        s.dueRan("a1", "b1");
        s.dueChanged();
        s.dueCause("b1", "b1");
        s.set("a1", "0");
        s.dueRan("a1");
    }

    /** All 72 cells in a row, begun at its far end, and all in one cycle. */
    private static void longRows() {
        CutoffSheet x = new CutoffSheet();
        Sheet s = new Sheet();
        s.set("b1", "a1+1", "a2", "h1+1");
        for (int from = 1; from < 7; from++) {
            s.x.copy(from, from + 1);
            s.x.update();
        }
        for (int row = 1; row < 8; row++) {
            s.x.copy(row * 8, row * 8 + 8);
            for (int column = 1; column < 8; column++) {
                s.x.copy(column, row * 8 + column);
            }
            s.x.update();
        }
        for (int column = 1; column < 8; column++) {
            s.x.copy(column, 64 + column);
        }
        s.x.update();
        s.dueCount(8, 71);
        s.dueValue("h9", 71);
        Check.due("the whole row is run", s.set("a1", "100"), 72);
        s.dueValue("h9", 171);
        Check.due("chain to its end", s.x.chainAt(71, 71), 0);
        Check.due("chain behind its end", s.x.chainAt(71, 72), Check.MISSING);
        s.set("a1", "h9+1");
        s.dueCount(6, 72);
        s.dueCount(7, 72);
        s.dueCount(8, 0);
        s.x.rounds(40);
        s.dueValue("h9", 40 * 72);
        Check.due("a new sheet is another one", x.value(71), 0);
    }
}
