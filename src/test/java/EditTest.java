/** Promises 5 to 10: put, copy, drop, waitingAt, update, rounds. */
public final class EditTest {
    private static final int[] OUTSIDE = {-1, 72, Integer.MIN_VALUE, Integer.MAX_VALUE};

    private EditTest() {
    }

    public static void main(String[] args) {
        putting();
        puttingAtTheLimit();
        copying();
        copyingOut();
        copyingAtTheLimit();
        dropping();
        waiting();
        updating();
        settingRounds();
        roundsAndWaitingEdits();
        Check.finish("EditTest");
    }

    private static void putting() {
        Sheet s = new Sheet();
        Check.due("put", s.put("c4", "1+2"), 1);
        s.dueCount(11, 3);
        s.dueValue("c4", 0);
        s.dueFormula("c4", "");
        Check.due("put elsewhere, same text", s.x.put(71), 2);
        Check.due("put in place of the earlier one", s.put("c4", "5"), 2);
        Check.due("put with a fault", s.put("c4", "5+"), Check.IMPOSSIBLE);
        for (int cell : OUTSIDE) {
            Check.due("put(" + cell + "), fault too", s.x.put(cell), Check.INVALID);
        }
        Check.due("update", s.x.update(), 2);
        s.dueFormula("c4", "5");
        s.dueFormula("h9", "1+2");
        s.dueValue("h9", 3);
        Check.due("put of nothing", s.put("h9", ""), 1);
        s.dueValue("h9", 3);
        s.x.update();
        s.dueFormula("h9", "");
        Check.due("is empty", s.of("h9", 3), 1);
    }

    private static void puttingAtTheLimit() {
        Sheet s = new Sheet();
        s.text("7");
        for (int cell = 0; cell < 8; cell++) {
            Check.due("put(" + cell + ")", s.x.put(cell), cell + 1);
        }
        Check.due("put of a ninth", s.x.put(8), Check.LIMIT);
        Check.due("put of one of the eight", s.x.put(3), 8);
        s.text("7+");
        Check.due("impossible rather than limit", s.x.put(8), Check.IMPOSSIBLE);
        s.text("");
        Check.due("emptying a ninth", s.x.put(8), Check.LIMIT);
        Check.due("emptying one of the eight", s.x.put(7), 8);
        s.dueCount(1, 8);
        Check.due("update", s.x.update(), 8);
        s.dueCount(0, 7);
        s.dueCount(1, 0);
    }

    private static void copying() {
        Sheet s = new Sheet();
        s.set("b2", "a1+if(c3,count(a1:c3),h9)", "h9", "4", "c3", "at(1,1)+at(a9,2)-10");
        Check.due("copy", s.copy("c3", "d2"), 1);
        Check.due("copy of a number", s.copy("h9", "a1"), 2);
        Check.due("copy to itself", s.copy("b2", "b2"), 3);
        Check.due("copy of nothing", s.copy("f6", "h9"), 4);
        s.put("g7", "1");
        Check.due("copy of what does not stand yet", s.copy("g7", "g8"), 6);
        s.x.update();
        s.dueFormula("d2", "at(1,1)+at(b8,2)-10");
        s.dueFormula("a1", "4");
        s.dueFormula("b2", "a1+if(c3,count(a1:c3),h9)");
        s.dueFormula("h9", "");
        s.dueFormula("g8", "");
        s.dueFormula("g7", "1");
        for (int cell : OUTSIDE) {
            Check.due("copy from " + cell, s.x.copy(cell, 0), Check.INVALID);
            Check.due("copy to " + cell, s.x.copy(0, cell), Check.INVALID);
        }
    }

    private static void copyingOut() {
        Sheet s = new Sheet();
        s.set("d5", "sum(b2:g8)", "d6", "12");
        Check.due("right", s.copy("d5", "e5"), 1);
        Check.due("too far right", s.copy("d5", "f5"), Check.IMPOSSIBLE);
        Check.due("left", s.copy("d5", "c5"), 2);
        Check.due("too far left", s.copy("d5", "b5"), Check.IMPOSSIBLE);
        Check.due("up", s.copy("d5", "d4"), 3);
        Check.due("too far up", s.copy("d5", "d3"), Check.IMPOSSIBLE);
        Check.due("down", s.copy("d5", "d6"), 4);
        Check.due("too far down", s.copy("d5", "d7"), Check.IMPOSSIBLE);
        Check.due("without cells", s.copy("d6", "h9"), 5);
        s.dueCount(10, 4);
        s.x.update();
        s.dueFormula("e5", "sum(c2:h8)");
        s.dueFormula("c5", "sum(a2:f8)");
        s.dueFormula("d4", "sum(b1:g7)");
        s.dueFormula("d6", "sum(b3:g9)");
        s.dueFormula("h9", "12");
    }

    private static void copyingAtTheLimit() {
        Sheet s = new Sheet();
        s.set("b1", "a1");
        for (int cell = 1; cell <= 7; cell++) {
            s.x.copy(1, cell);
        }
        Check.due("an eighth", s.x.copy(1, 9), 8);
        Check.due("a ninth", s.x.copy(1, 10), Check.LIMIT);
        Check.due("one of the eight", s.x.copy(1, 7), 8);
        Check.due("impossible rather than limit", s.x.copy(1, 8), Check.IMPOSSIBLE);
        Check.due("invalid rather than all", s.x.copy(1, 72), Check.INVALID);
        Check.due("an empty one to a ninth", s.x.copy(50, 51), Check.LIMIT);
    }

    private static void dropping() {
        Sheet s = new Sheet();
        Check.due("drop of none", s.x.drop(), Check.IMPOSSIBLE);
        s.put("a1", "1");
        s.put("b1", "");
        Check.due("drop of two", s.x.drop(), 2);
        s.dueCount(1, 0);
        Check.due("drop again", s.x.drop(), Check.IMPOSSIBLE);
        Check.due("update behind drop", s.x.update(), Check.IMPOSSIBLE);
        s.dueValue("a1", 0);
        Check.due("undo of drop", s.x.undo(), 2);
        s.dueCount(1, 2);
        Check.due("update behind undo", s.x.update(), 2);
        s.dueValue("a1", 1);
    }

    private static void waiting() {
        Sheet s = new Sheet();
        s.put("h9", "1");
        s.put("c4", "1");
        s.put("a1", "");
        s.put("c4", "2");
        String[] order = {"a1", "c4", "h9"};
        for (int index = 0; index < 3; index++) {
            Check.due("waitingAt(" + index + ")", s.x.waitingAt(index), Sheet.cell(order[index]));
        }
        Check.due("waitingAt(3)", s.x.waitingAt(3), Check.MISSING);
        Check.due("waitingAt(max)", s.x.waitingAt(Integer.MAX_VALUE), Check.MISSING);
        Check.due("waitingAt(-1)", s.x.waitingAt(-1), Check.INVALID);
        Check.due("waitingAt(min)", s.x.waitingAt(Integer.MIN_VALUE), Check.INVALID);
    }

    private static void updating() {
        Sheet s = new Sheet();
        Check.due("update of nothing", s.x.update(), Check.IMPOSSIBLE);
        Check.due("three new cells", s.set("a1", "2", "b1", "a1*a1", "c1", "min(b1,4)"), 3);
        Check.due("up to the cutoff", s.set("a1", "-2"), 2);
        s.dueRan("a1", "b1");
        s.dueChanged("a1");
        Check.due("the whole row", s.set("a1", "1"), 3);
        Check.due("the same formula", s.set("a1", "1"), 1);
        s.dueChanged();
        Check.due("an empty cell that stays so", s.set("d4", ""), 1);
        s.dueRan("d4");
        s.dueChanged();
        Check.due("runs of an empty cell", s.of("d4", 4), 1);
        Check.due("a 0 where it was empty", s.set("e5", "sum(d4:d5)", "d5", "count(d4)"), 2);
        Check.due("that changes", s.set("d4", "0"), 3);
        s.dueChanged("d4", "d5", "e5");
        Check.due("a formula in place of its value", s.set("d4", "1-1"), 1);
        s.dueFormula("d4", "1-1");
        Check.due("update again", s.x.update(), Check.IMPOSSIBLE);
    }

    private static void settingRounds() {
        Sheet s = new Sheet();
        for (int rounds : new int[] {-1, 41, Integer.MIN_VALUE, Integer.MAX_VALUE}) {
            Check.due("rounds(" + rounds + ")", s.x.rounds(rounds), Check.INVALID);
        }
        s.dueCount(10, 0);
        Check.due("rounds(40)", s.x.rounds(40), 0);
        Check.due("rounds(0)", s.x.rounds(0), 40);
        Check.due("rounds(3)", s.x.rounds(3), 0);
        s.dueCount(9, 3);
        s.dueCount(10, 3);
        s.set("a1", "a1+1", "b1", "5", "c1", "a1+b1");
        s.dueValue("a1", 3);
        Check.due("rounds(7)", s.x.rounds(7), 3);
        s.dueRan("a1", "c1");
        s.dueChanged("a1", "c1");
        s.dueValue("c1", 12);
        Check.due("the same rounds", s.x.rounds(7), 7);
        s.dueRan("a1", "c1");
        s.dueChanged();
        s.dueCause("a1", "a1");
        s.dueCause("c1", "c1");
    }

    private static void roundsAndWaitingEdits() {
        Sheet s = new Sheet();
        s.set("a1", "a1+1", "b1", "a1");
        s.put("a1", "9");
        s.put("c1", "9");
        Check.due("rounds(2)", s.x.rounds(2), 0);
        s.dueCount(1, 2);
        s.dueValue("a1", 2);
        s.dueValue("c1", 0);
        s.dueRan("a1", "b1");
        s.dueCause("a1", "a1");
        s.dueCause("b1", "a1");
        s.dueNoCause("c1");
        Check.due("update", s.x.update(), 3);
        s.dueValue("b1", 9);
        s.dueCause("b1", "a1");
    }
}
