/** What the document says under "Terms" of edits, of what is read and run, of heights and of the history. */
final class RunSentences {
    private RunSentences() {
    }

    static void hold(Sentences all) {
        all.under("Terms");
        all.hold("Edits wait: of a cell, that it gets a formula, or becomes empty.", RunSentences::editsWait);
        all.hold("At most 8 cells have a waiting edit; a later one of the same cell takes the place of the earlier one.",
                RunSentences::atMostEight);
        all.hold("When the sheet is brought up to date, all waiting edits are done, and then cells are run, so that all "
                + "values, errors and what cells read are as if all cells with formulas had been worked out anew.",
                RunSentences::upToDate);
        all.hold("What a cell reads are the cells that were read when it was worked out (with rounds, in the last round "
                + "in which it was worked out), each once, in the order in which they were read first, the one whose "
                + "error ended it included.", RunSentences::reads);
        all.hold("An empty cell reads nothing.", RunSentences::emptyReadsNothing);
        all.hold("A cell has changed if its value or error is another one than before (an edit to the same formula alone "
                + "changes nothing), or if it was empty and is not, or is empty and was not.", RunSentences::changed);
        all.hold("A cell is run if it was edited (also if it is empty then), if it is in a cycle or was in one before, or "
                + "if one of the cells that it read before has changed.", RunSentences::run);
        all.hold("No other cell is run.", RunSentences::noOther);
        all.hold("What a cell was run by: itself, if it was edited; otherwise the first one of the cells that it read "
                + "before that has changed; otherwise itself.", RunSentences::runBy);
        all.hold("The height of a cell that is not in a cycle is 0 if it reads nothing, otherwise one more than the "
                + "greatest height of the cells that it reads.", RunSentences::heights);
        all.hold("The changes are the calls of put, copy, drop, update and rounds that return no error.",
                RunSentences::theChanges);
        all.hold("A history of at most 4 states is kept: each change records everything before it but the text that is "
                + "typed, and if there are 5 states then, the oldest one is dropped.", RunSentences::history);
        all.hold("If several errors apply to a call, INVALID_ARGUMENT is returned rather than NOT_POSSIBLE, NOT_POSSIBLE "
                + "rather than LIMIT_REACHED, and LIMIT_REACHED rather than NOT_FOUND.", RunSentences::severalErrors);
        all.hold("A call that returns an error changes nothing.", RunSentences::errorsChangeNothing);
    }

    private static void editsWait() {
        Sheet s = new Sheet();
        s.put("a1", "5");
        s.dueWaiting("a1");
        s.dueValue("a1", 0);
        s.dueIs("a1", 3, 1);
        s.dueFormula("a1", "");
        s.x.update();
        s.dueWaiting();
        s.dueFormula("a1", "5");
        s.put("a1", "");
        s.dueWaiting("a1");
        s.dueValue("a1", 5);
        s.dueIs("a1", 3, 0);
        s.x.update();
        s.dueFormula("a1", "");
        s.dueIs("a1", 3, 1);
    }

    private static void atMostEight() {
        Sheet s = new Sheet();
        s.text("1");
        for (int cell = 0; cell < 8; cell++) {
            Check.due("edit of cell " + cell, s.x.put(cell * 9), cell + 1);
        }
        Check.due("put of a ninth", s.x.put(1), Check.LIMIT);
        Check.due("copy to a ninth", s.x.copy(50, 1), Check.LIMIT);
        Check.due("a later one", s.put("a1", "2"), 8);
        Check.due("a later one that empties", s.put("b2", ""), 8);
        Check.due("a later one by copy", s.copy("h1", "c3"), 8);
        Check.due("update", s.x.update(), 8);
        s.dueFormula("a1", "2");
        s.dueFormula("b2", "");
        s.dueFormula("c3", "");
        s.dueFormula("h8", "1");
        Check.due("a ninth behind the update", s.x.put(1), 1);
    }

    private static void upToDate() {
        Sheet s = new Sheet();
        s.set("a1", "1", "b1", "if(a1,c1,d1)", "c1", "5", "d1", "e1*2", "e1", "4", "f1", "b1+d1", "g1", "f1-f1", "h1", "7");
        s.dueValue("f1", 13);
        Check.due("three edits", s.set("a1", "0", "e1", "div(1,0)", "h1", ""), 7);
        s.dueWaiting();
        s.dueError("b1", 2);
        s.dueReads("b1", "a1", "d1");
        s.dueError("f1", 2);
        s.dueReads("f1", "b1");
        s.dueError("g1", 2);
        s.dueValue("h1", 0);
        s.set("e1", "h1+1");
        s.dueValue("b1", 2);
        s.dueValue("f1", 4);
        s.dueReads("f1", "b1", "d1");
        s.dueValue("g1", 0);
        s.x.rounds(3);
        s.dueValue("f1", 4);
        s.dueReads("d1", "e1");
    }

    private static void reads() {
        Sheet s = new Sheet();
        s.set("a1", "h9+b2+h9+c3*b2", "b1", "sum(b3:c4,c3:c5)", "c1", "d5+div(1,0)+d6", "d1", "d5+c1+d6", "e1", "12");
        s.dueReads("a1", "h9", "b2", "c3");
        s.dueReads("b1", "b3", "c3", "b4", "c4", "c5");
        s.dueReads("c1", "d5");
        s.dueReads("d1", "d5", "c1");
        s.dueReads("e1");
        s.set("f1", "d5+g1+d6", "g1", "f1+d5");
        s.dueReads("f1", "d5", "g1");
        s.dueReads("g1", "f1");
        s = new Sheet();
        s.x.rounds(1);
        s.set("a1", "if(a1,b1,c1+1)");
        s.dueReads("a1", "a1", "c1");
        s.x.rounds(2);
        s.dueReads("a1", "a1", "b1");
        s.dueReaders("c1");
        s.dueReaders("b1", "a1");
    }

    private static void emptyReadsNothing() {
        Sheet s = new Sheet();
        s.dueReads("a1");
        s.set("a1", "b1+c1", "d1", "a1", "e1", "e1");
        s.dueReads("a1", "b1", "c1");
        s.set("a1", "", "e1", "");
        s.dueReads("a1");
        s.dueReads("e1");
        s.dueReaders("b1");
        s.dueReaders("e1");
        s.dueIs("a1", 1, 0);
    }

    private static void changed() {
        Sheet s = new Sheet();
        s.set("a1", "5", "b1", "div(1,0)", "c1", "a1*0", "d1", "0", "e1", "");
        s.dueChanged("a1", "b1", "c1", "d1");
        s.set("a1", "5", "b1", "div(1,0)");
        s.dueChanged();
        s.set("a1", "6");
        s.dueChanged("a1");
        s.set("a1", "3+3", "b1", "div(2,0)");
        s.dueChanged();
        s.set("b1", "at(9,9)");
        s.dueChanged("b1");
        s.set("b1", "0");
        s.dueChanged("b1");
        s.set("b1", "at(9,9)");
        s.dueChanged("b1");
        s.set("d1", "", "e1", "0");
        s.dueChanged("d1", "e1");
        s.set("d1", "", "f1", "");
        s.dueChanged();
    }

    private static void run() {
        Sheet s = new Sheet();
        Check.due("edits of what is empty then", s.set("a1", "", "b1", "c1"), 2);
        s.dueRan("a1", "b1");
        Check.due("what it read has changed", s.set("c1", "0"), 2);
        s.dueRan("c1", "b1");
        Check.due("becomes empty", s.set("c1", ""), 2);
        s.dueRan("c1", "b1");
        Check.due("into a cycle", s.set("c1", "b1"), 2);
        s.dueRan("b1", "c1");
        Check.due("in a cycle", s.set("h9", "1"), 3);
        s.dueRan("h9", "b1", "c1");
        Check.due("in a cycle, by rounds", s.x.rounds(0), 0);
        s.dueRan("b1", "c1");
        s.x.rounds(9);
        Check.due("was in a cycle", s.set("c1", "0"), 2);
        s.dueChanged();
        s.dueRan("c1", "b1");
        Check.due("is not in one", s.set("c1", "0"), 1);
        Check.due("into one with the same values", s.set("c1", "b1"), 2);
        s.dueChanged();
        s.dueRan("b1", "c1");
        s = new Sheet();
        s.set("a1", "0", "b1", "if(a1,c1,d1)");
        Check.due("what it did not read", s.set("c1", "5"), 1);
        Check.due("what it reads from now on", s.set("a1", "1"), 2);
        Check.due("what it read before it", s.set("d1", "5"), 1);
        Check.due("what it reads", s.set("c1", "6"), 2);
    }

    private static void noOther() {
        Sheet s = new Sheet();
        s.set("a1", "2", "b1", "a1*a1", "c1", "b1+1", "d1", "9", "e1", "if(d1,1,a1)", "f1", "a1*0", "g1", "f1");
        s.set("a1", "-2");
        s.dueRan("a1", "b1", "f1");
        s.dueNoCause("c1");
        s.dueIs("c1", 4, 1);
        s.dueIs("c1", 5, 0);
        s.dueIs("g1", 4, 1);
        s.dueIs("e1", 4, 1);
        s.dueIs("b1", 4, 2);
        s.dueCount(12, 10);
        s.x.rounds(7);
        s.dueRan();
        s.dueCount(12, 10);
    }

    private static void runBy() {
        Sheet s = new Sheet();
        s.set("a1", "1", "b1", "2", "c1", "b1+a1", "d1", "a1*0+b1", "e1", "if(a1,b1,f1)", "g1", "h1+g1");
        s.dueCause("c1", "c1");
        s.set("a1", "3", "b1", "4", "d1", "b1+a1");
        s.dueCause("a1", "a1");
        s.dueCause("c1", "b1");
        s.dueCause("d1", "d1");
        s.dueCause("e1", "a1");
        s.dueCause("g1", "g1");
        s.set("a1", "0", "f1", "6");
        s.dueCause("c1", "a1");
        s.dueCause("d1", "a1");
        s.dueCause("e1", "a1");
        s.dueCause("g1", "g1");
        s.dueNoCause("b1");
        s.x.rounds(1);
        s.set("h1", "2");
        s.dueCause("g1", "h1");
        s.set("g1", "h1");
        s.dueCause("g1", "g1");
        s = new Sheet();
        s.x.rounds(1);
        s.set("a1", "if(b1,c1,d1)+0*a1", "b1", "1+0*b1", "c1", "c1+1");
        s.dueReads("a1", "b1", "d1", "a1");
        s.x.rounds(2);
        s.dueReads("a1", "b1", "c1", "a1");
        s.dueChanged("a1", "c1");
        s.dueCause("a1", "a1");
    }

    private static void heights() {
        Sheet s = new Sheet();
        s.set("a1", "1", "b1", "h9", "c1", "a1+b1", "d1", "c1+a1", "e1", "a1+d1+b1", "f1", "div(d1,0)+e1");
        String[] cells = {"h9", "a1", "b1", "c1", "d1", "e1", "f1"};
        int[] want = {0, 0, 1, 2, 3, 4, 4};
        for (int index = 0; index < cells.length; index++) {
            s.dueIs(cells[index], 1, want[index]);
        }
        s.set("g1", "g1", "h1", "g1", "h9", "at(9,9)");
        s.dueIs("g1", 1, Check.MISSING);
        s.dueIs("h1", 1, Check.MISSING);
        s.dueIs("h9", 1, 0);
        s.dueIs("c1", 1, 2);
        s.dueIs("d1", 1, 3);
        s.set("b1", "");
        s.dueIs("c1", 1, 1);
        s.dueIs("e1", 1, 3);
    }

    private static void theChanges() {
        Sheet s = new Sheet();
        s.put("a1", "1");
        s.dueCount(10, 1);
        s.copy("a1", "b1");
        s.dueCount(10, 2);
        s.x.drop();
        s.dueCount(10, 3);
        s.x.rounds(0);
        s.dueCount(10, 4);
        s.x.undo();
        s.x.undo();
        s.x.update();
        s.dueCount(10, 3);
        s.text("1+");
        s.x.fault();
        s.x.whatIf(0, 5, 0);
        s.x.put(0);
        s.x.put(-1);
        s.x.copy(0, 72);
        s.x.drop();
        s.x.update();
        s.x.rounds(41);
        s.dueCount(10, 3);
    }

    private static void history() {
        Sheet s = new Sheet();
        for (int rounds = 1; rounds <= 6; rounds++) {
            s.x.rounds(rounds);
            s.dueCount(10, Math.min(4, rounds));
        }
        s.text("7+");
        for (int left = 3; left >= 0; left--) {
            Check.due("undo", s.x.undo(), left);
            s.dueCount(9, 2 + left);
            s.dueCount(11, 2);
        }
        Check.due("the oldest two are dropped", s.x.undo(), Check.IMPOSSIBLE);
        s.dueCount(9, 2);
        s = new Sheet();
        s.x.rounds(6);
        s.set("a1", "a1+b1", "b1", "2", "c1", "div(b1,0)", "d1", "if(b1,e1,f1)");
        s.put("f1", "8");
        s.copy("c1", "g1");
        int[] before = s.everything();
        s.x.update();
        s.put("b1", "a1");
        s.x.rounds(0);
        s.x.drop();
        for (int left = 3; left >= 0; left--) {
            Check.due("undo", s.x.undo(), left);
        }
        s.dueEverything(before);
        s = new Sheet();
        s.set("a1", "a1+1", "b1", "5", "c1", "b1");
        before = s.everything();
        s.set("a1", "7", "b1", "d1");
        s.dueCount(5, 1);
        s.dueIs("c1", 1, 2);
        for (int left = 3; left >= 1; left--) {
            Check.due("undo", s.x.undo(), left);
        }
        s.dueEverything(before);
        s.dueCount(5, 0);
        s.dueIs("c1", 1, 1);
    }

    private static void severalErrors() {
        Sheet s = new Sheet();
        s.set("a1", "div(1,0)", "b1", "b1", "c1", "a1", "c9", "a9");
        Check.due("invalid rather than missing", s.x.cellOf(72, 1), Check.INVALID);
        Check.due("invalid rather than missing", s.x.letterAt(50, -1), Check.INVALID);
        Check.due("invalid rather than missing", s.x.whatIf(72, 5, 0), Check.INVALID);
        for (int cell = 10; cell < 18; cell++) {
            s.text("1").x.put(cell);
        }
        s.text("1+");
        Check.due("invalid rather than impossible", s.x.put(72), Check.INVALID);
        Check.due("impossible rather than limit", s.x.put(20), Check.IMPOSSIBLE);
        Check.due("impossible rather than limit", s.copy("c1", "b1"), Check.IMPOSSIBLE);
        Check.due("impossible rather than limit", s.copy("c9", "b9"), Check.IMPOSSIBLE);
        Check.due("invalid rather than limit", s.x.copy(0, 72), Check.INVALID);
        Check.due("limit alone", s.copy("c9", "d9"), Check.LIMIT);
        s.text("1+".repeat(15));
        Check.due("invalid rather than limit", s.x.type(127), Check.INVALID);
        Check.due("limit alone", s.x.type(126), Check.LIMIT);
    }

    private static void errorsChangeNothing() {
        Sheet s = new Sheet();
        s.set("a1", "b1", "b1", "2", "c1", "c1", "d1", "a1*c2");
        s.set("b1", "3");
        s.x.rounds(2);
        s.text("1+".repeat(15));
        int[] before = s.everything();
        s.x.type('1');
        s.x.type(31);
        s.x.put(0);
        s.x.put(72);
        s.copy("a1", "h1");
        s.x.copy(72, 0);
        s.x.drop();
        s.x.update();
        s.x.rounds(41);
        s.x.rounds(-1);
        s.x.whatIf(72, 0, 0);
        s.x.whatIf(1, 1000000, 0);
        s.x.whatIf(1, 0, 72);
        s.dueEverything(before);
        s.dueCount(10, 4);
        s.dueCount(11, 30);
        Check.due("text as it was", s.x.fault(), 30);
        Check.due("undo of the rounds", s.x.undo(), 3);
        s.dueCount(9, 0);
        s = new Sheet();
        s.text("4");
        for (int cell = 0; cell < 8; cell++) {
            s.x.put(cell);
        }
        before = s.everything();
        Check.due("put of a ninth", s.x.put(8), Check.LIMIT);
        Check.due("copy to a ninth", s.x.copy(9, 8), Check.LIMIT);
        s.dueEverything(before);
        s = new Sheet();
        before = s.everything();
        Check.due("undo of nothing", s.x.undo(), Check.IMPOSSIBLE);
        s.dueEverything(before);
        s.dueCount(10, 0);
    }
}
