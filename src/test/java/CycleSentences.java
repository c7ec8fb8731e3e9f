/** What the document says under "Terms" of cells in cycles and of rounds. */
final class CycleSentences {
    private CycleSentences() {
    }

    static void hold(Sentences all) {
        all.under("Terms");
        all.hold("A cell is in a cycle if it would read itself, or it would read a cell that would read it, and so on, "
                + "or if it would read a cell that is in a cycle (what comes behind an error is not read).",
                CycleSentences::inACycle);
        all.hold("Without rounds (0 at first; 0 to 40 can be set), a cell in a cycle has error 4.",
                CycleSentences::withoutRounds);
        all.hold("With rounds, all cells in cycles get the value 0 at first, all others are as told.",
                CycleSentences::atFirst);
        all.hold("Then in each round all cells in cycles, in the order of their numbers, are worked out by the values "
                + "and errors as they are then.", CycleSentences::inEachRound);
        all.hold("This ends behind a round in which none of them has another value or error than ahead of it, or when "
                + "there have been as many rounds as are set; the cells are settled in the first case.",
                CycleSentences::theEnd);
    }

    private static void dueCycle(Sheet s, String... cells) {
        for (String cell : cells) {
            s.dueIs(cell, 7, 1);
            s.dueIs(cell, 1, Check.MISSING);
            s.dueError(cell, 4);
        }
        s.dueCount(6, cells.length);
    }

    private static void inACycle() {
        Sheet s = new Sheet();
        s.set("a1", "a1");
        dueCycle(s, "a1");
        s = new Sheet();
        s.set("a1", "b1", "b1", "c1", "c1", "a1+d1", "d1", "7", "e1", "d1+a1", "f1", "e1", "g1", "d1");
        dueCycle(s, "a1", "b1", "c1", "e1", "f1");
        s.dueValue("g1", 7);
        s = new Sheet();
        s.set("a1", "sum(a1:b1)", "c1", "count(b1:c2)", "d1", "at(3,0)", "e1", "if(0,e1,5)", "f1", "pick(2,f1,6)");
        dueCycle(s, "a1", "c1", "d1");
        s.dueValue("e1", 5);
        s.dueValue("f1", 6);
        s = new Sheet();
        s.set("a1", "div(1,0)+a1", "b1", "c1", "c1", "at(9,9)*b1", "d1", "a1+e1", "e1", "e1");
        s.dueError("a1", 2);
        s.dueError("b1", 3);
        s.dueError("c1", 3);
        s.dueError("d1", 2);
        s.dueIs("d1", 1, 1);
        dueCycle(s, "e1");
        s = new Sheet();
        s.set("a1", "if(c1,b1,1)", "b1", "if(c1,1,a1)");
        s.dueCount(6, 0);
        s.set("c1", "1");
        s.dueCount(6, 0);
        s.set("b1", "a1");
        dueCycle(s, "a1", "b1");
    }

    private static void withoutRounds() {
        Sheet s = new Sheet();
        s.dueCount(9, 0);
        s.set("a1", "a1+1");
        s.dueError("a1", 4);
        Check.due("too few", s.x.rounds(-1), Check.INVALID);
        Check.due("too many", s.x.rounds(41), Check.INVALID);
        s.dueError("a1", 4);
        Check.due("the most", s.x.rounds(40), 0);
        s.dueValue("a1", 40);
        Check.due("one", s.x.rounds(1), 40);
        s.dueValue("a1", 1);
        Check.due("none again", s.x.rounds(0), 1);
        s.dueError("a1", 4);
        s.dueCount(4, 0);
    }

    private static void atFirst() {
        Sheet s = new Sheet();
        s.set("a1", "a1+7", "b1", "3+4", "c1", "div(1,0)", "d1", "d1*0+c1", "e1", "b1+1");
        s.x.rounds(1);
        s.dueValue("a1", 7);
        s.dueValue("b1", 7);
        s.dueError("c1", 2);
        s.dueError("d1", 2);
        s.dueValue("e1", 8);
        s.x.rounds(1);
        s.dueValue("a1", 7);
        s.set("c1", "5");
        s.dueValue("a1", 7);
        s.dueValue("d1", 5);
        s.x.rounds(2);
        s.dueValue("a1", 14);
        s = new Sheet();
        s.x.rounds(1);
        s.set("a1", "9", "b1", "a1");
        s.set("a1", "b1+1");
        s.dueValue("a1", 1);
        s.dueValue("b1", 1);
    }

    private static void inEachRound() {
        Sheet s = new Sheet();
        s.x.rounds(1);
        s.set("a1", "c1+1", "b1", "a1+1", "c1", "b1+1", "a2", "c1", "h9", "a1", "d4", "h9+1");
        s.dueValue("a1", 1);
        s.dueValue("b1", 2);
        s.dueValue("c1", 3);
        s.dueValue("a2", 3);
        s.dueValue("d4", 1);
        s.dueValue("h9", 1);
        s.x.rounds(2);
        s.dueValue("a1", 4);
        s.dueValue("c1", 6);
        s.dueValue("d4", 2);
        s.dueValue("h9", 4);
        s = new Sheet();
        s.x.rounds(1);
        s.set("a1", "div(6,b1)", "b1", "if(b1,a1,1)", "c1", "b1*0+a1");
        s.dueError("a1", 2);
        s.dueValue("b1", 1);
        s.dueError("c1", 2);
        s.x.rounds(2);
        s.dueValue("a1", 6);
        s.dueValue("b1", 6);
        s.dueValue("c1", 6);
    }

    /** The rounds that are set, how many are gone over, and 1 if the cells are settled. */
    private static void gone(Sheet s, int set, int gone, int settled) {
        s.x.rounds(set);
        s.dueCount(4, gone);
        s.dueCount(5, settled);
    }

    private static void theEnd() {
        Sheet s = new Sheet();
        s.set("a1", "a1");
        gone(s, 1, 1, 1);
        gone(s, 40, 1, 1);
        gone(s, 0, 0, 0);
        s = new Sheet();
        s.set("a1", "min(a1+1,3)");
        gone(s, 2, 2, 0);
        gone(s, 3, 3, 0);
        s.dueValue("a1", 3);
        gone(s, 4, 4, 1);
        gone(s, 5, 4, 1);
        s.dueValue("a1", 3);
        s = new Sheet();
        s.set("a1", "div(1,a1)");
        gone(s, 1, 1, 0);
        gone(s, 2, 2, 1);
        s.dueError("a1", 2);
        s = new Sheet();
        s.set("a1", "a1", "h9", "h9+1");
        gone(s, 40, 40, 0);
        s.dueValue("h9", 40);
        s = new Sheet();
        s.set("a1", "1-a1", "b1", "b1");
        gone(s, 39, 39, 0);
        s.dueValue("a1", 1);
        gone(s, 40, 40, 0);
        s.dueValue("a1", 0);
        s = new Sheet();
        s.set("a1", "a1", "h9", "min(h9+1,39)");
        gone(s, 40, 40, 1);
        gone(s, 39, 39, 0);
    }
}
