/** Promises 11 to 15: value, cellOf, letterAt, readAt, readerAt. */
public final class CellTest {
    private static final int[] OUTSIDE = {-1, 72, Integer.MIN_VALUE, Integer.MAX_VALUE};

    private CellTest() {
    }

    public static void main(String[] args) {
        outside();
        values();
        facts();
        emptied();
        heights();
        letters();
        reads();
        readers();
        Check.finish("CellTest");
    }

    private static void outside() {
        CutoffSheet x = new CutoffSheet();
        for (int cell : OUTSIDE) {
            Check.due("value(" + cell + ")", x.value(cell), Check.INVALID);
            Check.due("cellOf(" + cell + ", 0)", x.cellOf(cell, 0), Check.INVALID);
            Check.due("letterAt(" + cell + ", 0)", x.letterAt(cell, 0), Check.INVALID);
            Check.due("readAt(" + cell + ", 0)", x.readAt(cell, 0), Check.INVALID);
            Check.due("readerAt(" + cell + ", 0)", x.readerAt(cell, 0), Check.INVALID);
        }
        for (int negative : new int[] {-1, Integer.MIN_VALUE}) {
            Check.due("letterAt(5, " + negative + ")", x.letterAt(5, negative), Check.INVALID);
            Check.due("readAt(5, " + negative + ")", x.readAt(5, negative), Check.INVALID);
            Check.due("readerAt(5, " + negative + ")", x.readerAt(5, negative), Check.INVALID);
            Check.due("cellOf(5, " + negative + ")", x.cellOf(5, negative), Check.INVALID);
        }
        Check.due("cellOf(5, 9)", x.cellOf(5, 9), Check.INVALID);
        Check.due("cellOf(5, max)", x.cellOf(5, Integer.MAX_VALUE), Check.INVALID);
        Check.due("letterAt far behind", x.letterAt(5, Integer.MAX_VALUE), Check.MISSING);
        Check.due("readAt far behind", x.readAt(5, Integer.MAX_VALUE), Check.MISSING);
        Check.due("readerAt far behind", x.readerAt(5, Integer.MAX_VALUE), Check.MISSING);
    }

    private static void values() {
        Sheet s = new Sheet();
        s.set("a1", "-5", "h9", "a1*a1", "d4", "div(a1,0)", "d5", "d4");
        s.dueValue("a1", -5);
        s.dueValue("h9", 25);
        s.dueValue("d4", Check.MISSING);
        s.dueValue("d5", Check.MISSING);
        s.dueValue("e5", 0);
        s.put("a1", "6");
        s.dueValue("a1", -5);
    }

    private static void facts() {
        Sheet s = new Sheet();
        s.set("a1", "7", "b1", "a1+a1", "c1", "mod(b1,0)", "d1", "d1");
        int[][] want = {
            {0, 0, 0, 0, 1, 1, 1, 0, 1},
            {0, 1, 1, 0, 1, 1, 1, 0, 5},
            {2, 2, 1, 0, 1, 1, 1, 0, 9},
            {4, Check.MISSING, 1, 0, 1, 1, 1, 1, 2},
            {0, 0, 0, 1, 0, 0, 0, 0, 0}};
        for (int cell = 0; cell < want.length; cell++) {
            for (int what = 0; what <= 8; what++) {
                Check.due("cellOf(" + cell + ", " + what + ")", s.x.cellOf(cell, what), want[cell][what]);
            }
        }
        s.set("b1", "a1*2");
        int[] run = {0, 1, 0, 1, 0};
        int[] runs = {1, 2, 1, 2, 0};
        for (int cell = 0; cell < run.length; cell++) {
            Check.due("run of " + cell, s.x.cellOf(cell, 5), run[cell]);
            Check.due("changed of " + cell, s.x.cellOf(cell, 6), 0);
            Check.due("runs of " + cell, s.x.cellOf(cell, 4), runs[cell]);
        }
        s.set("a1", "8");
        Check.due("error that stays", s.of("c1", 6), 0);
        Check.due("run with an error that stays", s.of("c1", 5), 1);
        s.set("c1", "at(9,9)");
        Check.due("another error", s.of("c1", 6), 1);
        s.set("c1", "0");
        Check.due("a 0 in place of an error", s.of("c1", 6), 1);
        s.set("c1", "");
        Check.due("nothing in place of a 0", s.of("c1", 6), 1);
        Check.due("runs of c1", s.of("c1", 4), 5);
    }

    private static void emptied() {
        Sheet s = new Sheet();
        s.set("a1", "1", "b1", "a1", "c1", "b1+at(9,9)", "d1", "d1");
        s.set("b1", "", "c1", "", "d1", "");
        for (int cell = 1; cell <= 3; cell++) {
            Check.due("value of an emptied cell", s.x.value(cell), 0);
            int[] want = {0, 0, 0, 1, 2, 1, 1, 0, 0};
            for (int what = 0; what <= 8; what++) {
                Check.due("cellOf " + what + " of an emptied cell", s.x.cellOf(cell, what), want[what]);
            }
        }
        s.dueCount(0, 1);
        s.dueCount(6, 0);
        s.dueCount(7, 0);
        s.dueCount(8, 0);
    }

    private static void heights() {
        Sheet s = new Sheet();
        s.set("a1", "1", "b1", "a1", "c1", "b1", "d1", "if(a1,a1,c1)", "e1", "sum(a1:d1,f1)", "g1", "f1");
        String[] cells = {"a1", "b1", "c1", "d1", "e1", "f1", "g1"};
        int[] want = {0, 1, 2, 1, 3, 0, 1};
        for (int i = 0; i < cells.length; i++) {
            Check.due("height of " + cells[i], s.of(cells[i], 1), want[i]);
        }
        s.dueCount(8, 3);
        s.set("a1", "0");
        Check.due("height that grew by a value", s.of("d1", 1), 3);
        Check.due("height above it", s.of("e1", 1), 4);
        s.dueCount(8, 4);
        s.set("f1", "div(1,0)");
        Check.due("height of an error", s.of("e1", 1), 4);
        s.set("a1", "div(1,0)");
        Check.due("height up to the error", s.of("e1", 1), 1);
        s.dueCount(8, 2);
    }

    private static void letters() {
        Sheet s = new Sheet();
        String longest = "sum(a1:h9,count(a1:h9),-1)*123";
        s.set("b2", longest, "c3", "007");
        s.dueFormula("b2", longest);
        s.dueFormula("c3", "007");
        s.dueFormula("a1", "");
        s.put("c3", "1");
        s.dueFormula("c3", "007");
        s.x.update();
        s.dueFormula("c3", "1");
        s.set("b2", "");
        s.dueFormula("b2", "");
    }

    private static void reads() {
        Sheet s = new Sheet();
        s.set("a1", "h9+b2+h9+c3*b2", "d4", "12", "e5", "sum(g8:h9)", "f6", "count(b1:c2,a2:b3)+a1");
        s.dueReads("a1", "h9", "b2", "c3");
        s.dueReads("d4");
        s.dueReads("e5", "g8", "h8", "g9", "h9");
        s.dueReads("f6", "b1", "c1", "b2", "c2", "a2", "a3", "b3", "a1");
        s.dueReads("h9");
        s.set("a1", "");
        s.dueReads("a1");
        s = new Sheet();
        s.set("a1", "sum(b1:h9,a2:a9,a1)");
        Check.due("reads of all cells", s.of("a1", 2), 72);
        Check.due("the last of all", s.x.readAt(0, 71), 0);
        Check.due("behind the last of all", s.x.readAt(0, 72), Check.MISSING);
    }

    private static void readers() {
        Sheet s = new Sheet();
        s.set("h9", "a1", "b1", "a1*2", "a1", "4", "c4", "if(a1,b1,h9)", "d4", "at(0,0)+d4");
        s.dueReaders("a1", "b1", "c4", "d4", "h9");
        s.dueReaders("b1", "c4");
        s.dueReaders("h9");
        s.dueReaders("d4", "d4");
        s.set("a1", "0", "h9", "3");
        s.dueReaders("a1", "b1", "c4", "d4");
        s.dueReaders("b1");
        s.dueReaders("h9", "c4");
        s.put("e5", "a1");
        s.dueReaders("a1", "b1", "c4", "d4");
    }
}
