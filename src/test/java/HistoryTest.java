/** Promise 22, undo, and that calls which return an error change nothing. */
public final class HistoryTest {
    private HistoryTest() {
    }

    public static void main(String[] args) {
        eachChange();
        theOldestIsDropped();
        allComesBack();
        settledComesBack();
        theTextStays();
        noChange();
        Check.finish("HistoryTest");
    }

    private static void eachChange() {
        Sheet s = new Sheet();
        Check.due("undo of nothing", s.x.undo(), Check.IMPOSSIBLE);
        s.put("a1", "1");
        s.dueCount(10, 1);
        s.x.update();
        s.dueCount(10, 2);
        s.copy("a1", "b1");
        s.dueCount(10, 3);
        s.x.drop();
        s.dueCount(10, 4);
        Check.due("undo of drop", s.x.undo(), 3);
        s.dueCount(1, 1);
        Check.due("undo of copy", s.x.undo(), 2);
        s.dueCount(1, 0);
        s.dueValue("a1", 1);
        Check.due("undo of update", s.x.undo(), 1);
        s.dueValue("a1", 0);
        s.dueCount(1, 1);
        s.x.rounds(4);
        s.dueCount(10, 2);
        Check.due("undo of rounds", s.x.undo(), 1);
        s.dueCount(9, 0);
        Check.due("undo of put", s.x.undo(), 0);
        s.dueCount(1, 0);
        Check.due("undo of all", s.x.undo(), Check.IMPOSSIBLE);
    }

    private static void theOldestIsDropped() {
        Sheet s = new Sheet();
        for (int rounds = 1; rounds <= 9; rounds++) {
            s.x.rounds(rounds);
            s.dueCount(10, Math.min(4, rounds));
        }
        for (int left = 3; left >= 0; left--) {
            Check.due("undo", s.x.undo(), left);
            s.dueCount(9, 5 + left);
        }
        Check.due("undo of more", s.x.undo(), Check.IMPOSSIBLE);
        s.dueCount(9, 5);
        s.x.rounds(20);
        s.dueCount(10, 1);
        s.x.undo();
        s.dueCount(9, 5);
    }

    private static void allComesBack() {
        Sheet s = new Sheet();
        s.x.rounds(6);
        s.set("a1", "a1+b1", "b1", "2", "c1", "div(b1,0)", "d1", "if(b1,e1,f1)");
        s.set("b1", "3");
        int[] before = everything(s.x);
        s.put("b1", "a1");
        s.put("d1", "");
        s.x.update();
        s.x.rounds(0);
        for (int left = 3; left >= 0; left--) {
            Check.due("undo", s.x.undo(), left);
        }
        int[] after = everything(s.x);
        for (int i = 0; i < before.length; i++) {
            Check.due("answer " + i + " that comes back", after[i], before[i]);
        }
    }

    /** What undo brings back, but for the history's own length. */
    private static int[] everything(CutoffSheet x) {
        int[] answers = new int[200];
        int next = 0;
        for (int cell = 0; cell < 6; cell++) {
            answers[next++] = x.value(cell);
            answers[next++] = x.cause(cell);
            for (int what = 0; what <= 8; what++) {
                answers[next++] = x.cellOf(cell, what);
            }
            for (int index = 0; index < 3; index++) {
                answers[next++] = x.letterAt(cell, index);
                answers[next++] = x.readAt(cell, index);
                answers[next++] = x.chainAt(cell, index);
            }
        }
        for (int what = 0; what <= 12; what++) {
            answers[next++] = what == 10 || what == 11 ? 0 : x.count(what);
        }
        for (int index = 0; index < 6; index++) {
            answers[next++] = x.ranAt(index);
            answers[next++] = x.changedAt(index);
            answers[next++] = x.waitingAt(index);
        }
        return answers;
    }

    private static void settledComesBack() {
        Sheet s = new Sheet();
        s.set("a1", "a1");
        s.dueCount(5, 0);
        s.dueCount(7, 1);
        s.set("a1", "1");
        s.dueCount(5, 1);
        s.dueCount(7, 0);
        s.x.undo();
        s.dueCount(5, 0);
        s.x.rounds(3);
        s.dueCount(4, 1);
        s.dueCount(5, 1);
        s.x.undo();
        s.dueCount(4, 0);
        s.dueCount(5, 0);
    }

    private static void theTextStays() {
        Sheet s = new Sheet();
        s.put("a1", "12");
        s.text("b2+");
        s.x.undo();
        s.dueCount(11, 3);
        Check.due("fault of the text", s.x.fault(), 3);
        s.x.type('1');
        Check.due("type and clearText are no changes", s.x.undo(), Check.IMPOSSIBLE);
    }

    private static void noChange() {
        Sheet s = new Sheet();
        s.set("c4", "a1", "d4", "c4+d4");
        s.x.put(72);
        s.text("1+");
        s.x.put(0);
        s.x.copy(-1, 0);
        s.x.copy(Sheet.cell("c4"), Sheet.cell("a3"));
        s.x.copy(Sheet.cell("c4"), Sheet.cell("b4"));
        s.x.drop();
        s.x.update();
        s.x.rounds(41);
        s.x.rounds(-1);
        s.dueCount(10, 3);
        s.dueCount(1, 0);
        s.dueCount(2, 2);
        s.dueCount(9, 0);
        s.x.whatIf(0, 5, 1);
        s.x.fault();
        s.dueCount(10, 3);
        s.dueRan("c4", "d4");
        Check.due("undo of the update", s.x.undo(), 2);
        s.dueCount(1, 2);
    }
}
