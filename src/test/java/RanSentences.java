/** Promises 16 to 22, sentence by sentence. */
final class RanSentences {
    private RanSentences() {
    }

    static void hold(Sentences all) {
        all.under("Promise 16: ranAt");
        all.hold("int ranAt(int index): Returns a cell that was run when the sheet was last brought up to date: first "
                + "those that are not in a cycle, by their heights, the least first, of equal ones by numbers, then those "
                + "that are in a cycle by numbers.", RanSentences::ranInOrder);
        all.hold("index: 0 for the first one, and so on", RanSentences::ranFirst);
        all.hold("Returns the number of the cell", RanSentences::ranNumber);
        all.hold("INVALID_ARGUMENT if index is negative", RanSentences::ranNegative);
        all.hold("NOT_FOUND if there are not so many.", RanSentences::ranMissing);
        all.under("Promise 17: changedAt");
        all.hold("int changedAt(int index): Returns a cell that changed when the sheet was last brought up to date; they "
                + "are in order by their numbers.", RanSentences::changedInOrder);
        all.hold("index: 0 for the first one, and so on", RanSentences::changedFirst);
        all.hold("Returns the number of the cell", RanSentences::changedNumber);
        all.hold("INVALID_ARGUMENT if index is negative", RanSentences::changedNegative);
        all.hold("NOT_FOUND if there are not so many.", RanSentences::changedMissing);
        all.under("Promise 18: cause");
        all.hold("int cause(int cell): Tells what a cell was run by when the sheet was last brought up to date.",
                RanSentences::cause);
        all.hold("cell: 0 to 71", RanSentences::causeCells);
        all.hold("Returns the number of that cell", RanSentences::causeNumber);
        all.hold("INVALID_ARGUMENT if cell is out of range", RanSentences::causeOutside);
        all.hold("NOT_FOUND if it was not run then.", RanSentences::causeMissing);
        all.under("Promise 19: chainAt");
        all.hold("int chainAt(int cell, int index): Returns a cell of the row that begins with a cell that was run when "
                + "the sheet was last brought up to date, each one followed by what it was run by; the row ends with a "
                + "cell that was run by itself, or ahead of a cell that is in it already.", RanSentences::chain);
        all.hold("cell: 0 to 71", RanSentences::chainCells);
        all.hold("index: 0 for the cell itself, and so on", RanSentences::chainFirst);
        all.hold("Returns the number of the cell", RanSentences::chainNumber);
        all.hold("INVALID_ARGUMENT if cell is out of range or index is negative", RanSentences::chainInvalid);
        all.hold("NOT_FOUND if the cell was not run then, or the row has not so many.", RanSentences::chainMissing);
        whatIf(all);
        count(all);
        all.under("Promise 22: undo");
        all.hold("int undo(): Restores the latest state of the history, which is removed from it.", RanSentences::undo);
        all.hold("Returns the number of states that are left in the history", RanSentences::undoAnswer);
        all.hold("NOT_POSSIBLE if it is empty.", RanSentences::undoNone);
    }

    private static void whatIf(Sentences all) {
        all.under("Promise 20: whatIf");
        all.hold("int whatIf(int cell, int number, int of): Tells what the value of a cell would be, if another one (or "
                + "this one) had a number in place of its formula, without the waiting edits.", RanSentences::whatIf);
        all.hold("cell: 0 to 71, the cell that has the number", RanSentences::whatIfCells);
        all.hold("number: -999999 to 999999", RanSentences::whatIfNumbers);
        all.hold("of: 0 to 71, the cell that is asked for", RanSentences::whatIfOf);
        all.hold("Returns the value", RanSentences::whatIfValue);
        all.hold("INVALID_ARGUMENT if an argument is out of range", RanSentences::whatIfInvalid);
        all.hold("NOT_FOUND if it would have an error.", RanSentences::whatIfError);
    }

    private static void count(Sentences all) {
        all.under("Promise 21: count");
        all.hold("int count(int what): Returns a number.", RanSentences::allCounts);
        all.hold("what: 0: cells with formulas", RanSentences::countFormulas);
        all.hold("1: cells with a waiting edit", RanSentences::countWaiting);
        all.hold("2: cells that were run when the sheet was last brought up to date", RanSentences::countRun);
        all.hold("3: cells that changed then", RanSentences::countChanged);
        all.hold("4: rounds that were gone over then", RanSentences::countRounds);
        all.hold("5: 0 if there are cells in cycles and they were not settled then, otherwise 1",
                RanSentences::countSettled);
        all.hold("6: cells in cycles", RanSentences::countCycles);
        all.hold("7: cells with errors", RanSentences::countErrors);
        all.hold("8: the greatest height", RanSentences::countHeight);
        all.hold("9: the rounds that are set", RanSentences::countRoundsSet);
        all.hold("10: states in the history", RanSentences::countStates);
        all.hold("11: the length of the text", RanSentences::countText);
        all.hold("12: how often cells have been run, all together", RanSentences::countRuns);
        all.hold("Returns the number", RanSentences::countOfAll);
        all.hold("INVALID_ARGUMENT if what is out of range.", RanSentences::countInvalid);
    }

    /** A sheet whose 72 cells all have a formula; in its last update those of the last row were run. */
    private static Sheet ofAllCells(String formula) {
        Sheet s = new Sheet().text(formula);
        for (int cell = 0; cell < 72; cell++) {
            s.x.put(cell);
            if (cell % 8 == 7) {
                s.x.update();
            }
        }
        return s;
    }

    private static void ranInOrder() {
        Sheet s = new Sheet();
        s.set("h1", "1", "a1", "b1", "b1", "h1", "c1", "2", "d1", "d1", "a9", "d1", "e1", "b1", "b9", "");
        s.dueRan("c1", "h1", "b9", "b1", "a1", "e1", "d1", "a9");
        s.set("h1", "2");
        s.dueRan("h1", "b1", "a1", "e1", "d1", "a9");
        s.put("c1", "5");
        s.dueRan("h1", "b1", "a1", "e1", "d1", "a9");
        s.x.update();
        s.dueRan("c1", "d1", "a9");
        s.set("b1", "c1", "d1", "");
        s.dueRan("d1", "b1", "a9", "a1", "e1");
        s.x.rounds(2);
        s.dueRan();
        s.x.undo();
        s.dueRan("d1", "b1", "a9", "a1", "e1");
    }

    private static void ranFirst() {
        Sheet s = new Sheet();
        s.set("a1", "h9", "h9", "5");
        Check.due("the first one", s.x.ranAt(0), 71);
        Check.due("the second one", s.x.ranAt(1), 0);
    }

    private static void ranNumber() {
        Sheet s = ofAllCells("a1");
        dueAllRan(s);
        s.set("a1", "7");
        dueAllRan(s);
    }

    private static void dueAllRan(Sheet s) {
        for (int index = 0; index < 72; index++) {
            Check.due("ranAt(" + index + ")", s.x.ranAt(index), index);
        }
        Check.due("behind all", s.x.ranAt(72), Check.MISSING);
    }

    private static void ranNegative() {
        Sheet s = new Sheet();
        Check.dueInvalid("ranAt at first", s.x::ranAt, Check.NEGATIVE);
        s.set("a1", "a1");
        Check.dueInvalid("ranAt", s.x::ranAt, Check.NEGATIVE);
    }

    private static void ranMissing() {
        Sheet s = new Sheet();
        Check.due("at first", s.x.ranAt(0), Check.MISSING);
        s.set("a1", "1", "b1", "b1");
        Check.due("the last of two", s.x.ranAt(1), 1);
        Check.due("behind two", s.x.ranAt(2), Check.MISSING);
        Check.due("far behind", s.x.ranAt(Integer.MAX_VALUE), Check.MISSING);
        s.set("b1", "1");
        Check.due("behind one", s.x.ranAt(1), Check.MISSING);
        s.x.rounds(5);
        Check.due("when none was run", s.x.ranAt(0), Check.MISSING);
    }

    private static void changedInOrder() {
        Sheet s = new Sheet();
        s.set("h9", "3", "a1", "h9", "b2", "0*h9", "c3", "div(1,h9-3)", "d4", "");
        s.dueChanged("a1", "b2", "c3", "h9");
        s.set("h9", "4");
        s.dueChanged("a1", "c3", "h9");
        s.put("h9", "5");
        s.dueChanged("a1", "c3", "h9");
        s.x.drop();
        s.set("h9", "");
        s.dueChanged("a1", "c3", "h9");
        s.set("h9", "0");
        s.dueChanged("h9");
        s.x.rounds(1);
        s.dueChanged();
        s.x.undo();
        s.dueChanged("h9");
    }

    private static void changedFirst() {
        Sheet s = new Sheet();
        s.set("a1", "h9", "h9", "5");
        Check.due("the first one", s.x.changedAt(0), 0);
        Check.due("the second one", s.x.changedAt(1), 71);
    }

    private static void changedNumber() {
        Sheet s = ofAllCells("a1");
        s.set("a1", "7");
        for (int index = 0; index < 72; index++) {
            Check.due("changedAt(" + index + ")", s.x.changedAt(index), index);
        }
        Check.due("behind all", s.x.changedAt(72), Check.MISSING);
    }

    private static void changedNegative() {
        Sheet s = new Sheet();
        Check.dueInvalid("changedAt at first", s.x::changedAt, Check.NEGATIVE);
        s.set("a1", "1");
        Check.dueInvalid("changedAt", s.x::changedAt, Check.NEGATIVE);
    }

    private static void changedMissing() {
        Sheet s = new Sheet();
        Check.due("at first", s.x.changedAt(0), Check.MISSING);
        s.set("a1", "1", "h9", "2");
        Check.due("the last of two", s.x.changedAt(1), 71);
        Check.due("behind two", s.x.changedAt(2), Check.MISSING);
        Check.due("far behind", s.x.changedAt(Integer.MAX_VALUE), Check.MISSING);
        s.set("a1", "1");
        Check.due("when none changed", s.x.changedAt(0), Check.MISSING);
    }

    private static void cause() {
        Sheet s = new Sheet();
        s.set("a1", "1", "b1", "2", "c1", "b1+a1", "d1", "c1", "e1", "e1");
        s.dueCause("d1", "d1");
        s.set("a1", "5");
        s.dueCause("a1", "a1");
        s.dueCause("c1", "a1");
        s.dueCause("d1", "c1");
        s.dueCause("e1", "e1");
        s.dueNoCause("b1");
        s.put("b1", "7");
        s.dueCause("c1", "a1");
        s.x.update();
        s.dueCause("c1", "b1");
        s.x.undo();
        s.dueCause("c1", "a1");
        s.x.rounds(0);
        s.dueNoCause("c1");
        s.dueCause("e1", "e1");
    }

    private static void causeCells() {
        Sheet s = new Sheet();
        s.set("a1", "3", "h9", "a1");
        s.set("a1", "4");
        Check.due("the first cell", s.x.cause(0), 0);
        Check.due("the last cell", s.x.cause(71), 0);
    }

    private static void causeNumber() {
        Sheet s = new Sheet();
        s.set("a1", "h9", "h9", "1", "b1", "g9", "c1", "b1");
        s.set("h9", "2", "g9", "7");
        Check.due("run by h9", s.x.cause(0), 71);
        Check.due("run by itself", s.x.cause(71), 71);
        Check.due("run by g9", s.x.cause(1), 70);
        Check.due("run by b1", s.x.cause(2), 1);
    }

    private static void causeOutside() {
        Check.dueInvalid("cause at first", new CutoffSheet()::cause, Check.NO_CELLS);
        Check.dueInvalid("cause", ofAllCells("1").x::cause, Check.NO_CELLS);
    }

    private static void causeMissing() {
        Sheet s = new Sheet();
        s.dueNoCause("a1");
        s.set("a1", "1", "b1", "a1*0", "c1", "b1");
        s.dueNoCause("d1");
        s.set("a1", "2");
        s.dueCause("b1", "a1");
        s.dueNoCause("c1");
        s.x.rounds(3);
        s.dueNoCause("a1");
        s.dueNoCause("b1");
    }

    private static void chain() {
        Sheet s = new Sheet();
        s.set("a1", "1", "b1", "a1", "c1", "b1", "d1", "c1", "e1", "e1+a1");
        s.dueChain("d1");
        s.set("a1", "2");
        s.dueChain("d1", "c1", "b1", "a1");
        s.dueChain("b1", "a1");
        s.dueChain("a1");
        s.dueChain("e1");
        s.set("a1", "3", "c1", "b1+0");
        s.dueChain("d1", "c1");
        s = new Sheet();
        s.x.rounds(2);
        s.set("a1", "c1+1", "b1", "a1", "c1", "b1", "d1", "c1", "e1", "e1+1", "f1", "e1");
        s.x.rounds(3);
        s.dueChain("a1", "c1", "b1");
        s.dueChain("b1", "a1", "c1");
        s.dueChain("d1", "c1", "b1", "a1");
        s.dueChain("e1");
        s.dueChain("f1", "e1");
    }

    private static void chainCells() {
        Sheet s = new Sheet();
        s.set("a1", "3", "h9", "a1");
        s.set("a1", "4");
        Check.due("the first cell", s.x.chainAt(0, 0), 0);
        Check.due("the last cell", s.x.chainAt(71, 1), 0);
    }

    private static void chainFirst() {
        Sheet s = new Sheet();
        s.set("a1", "b1", "b1", "h9", "h9", "4");
        s.set("h9", "5");
        Check.due("the cell itself", s.x.chainAt(0, 0), 0);
        Check.due("the next one", s.x.chainAt(0, 1), 1);
        Check.due("the last one", s.x.chainAt(0, 2), 71);
    }

    /** Each of the 72 cells reads the next one, row by row. */
    private static void chainNumber() {
        Sheet s = new Sheet();
        for (int cell = 0; cell < 71; cell++) {
            s.put(Sheet.name(cell), Sheet.name(cell + 1));
            if (cell % 8 == 7) {
                s.x.update();
            }
        }
        s.set("h9", "5");
        s.set("h9", "6");
        for (int index = 0; index < 72; index++) {
            Check.due("chainAt(0, " + index + ")", s.x.chainAt(0, index), index);
        }
        Check.due("behind all", s.x.chainAt(0, 72), Check.MISSING);
    }

    private static void chainInvalid() {
        Sheet s = new Sheet();
        s.set("a1", "1");
        Check.dueInvalid("chainAt of no cell", cell -> s.x.chainAt(cell, 0), Check.NO_CELLS);
        Check.dueInvalid("chainAt", index -> s.x.chainAt(0, index), Check.NEGATIVE);
        Check.dueInvalid("chainAt of what was not run", index -> s.x.chainAt(1, index), Check.NEGATIVE);
        Check.due("both", s.x.chainAt(72, -1), Check.INVALID);
    }

    private static void chainMissing() {
        Sheet s = new Sheet();
        Check.due("at first", s.x.chainAt(0, 0), Check.MISSING);
        s.set("a1", "1", "b1", "a1", "c1", "7");
        s.set("a1", "2");
        Check.due("not run then", s.x.chainAt(2, 0), Check.MISSING);
        Check.due("never run", s.x.chainAt(40, 0), Check.MISSING);
        Check.due("behind one", s.x.chainAt(0, 1), Check.MISSING);
        Check.due("the last of two", s.x.chainAt(1, 1), 0);
        Check.due("behind two", s.x.chainAt(1, 2), Check.MISSING);
        Check.due("far behind", s.x.chainAt(1, Integer.MAX_VALUE), Check.MISSING);
        s.x.rounds(1);
        Check.due("not run by rounds", s.x.chainAt(1, 0), Check.MISSING);
    }

    private static void whatIf() {
        Sheet s = new Sheet();
        s.set("a1", "1", "b1", "a1*10", "c1", "if(a1,b1,d1)", "d1", "count(a1:b2)", "e1", "a1+a1");
        Check.due("this one", s.whatIf("a1", 7, "a1"), 7);
        Check.due("a reader", s.whatIf("a1", 7, "b1"), 70);
        Check.due("a reader's reader", s.whatIf("a1", 7, "c1"), 70);
        Check.due("what else would be read", s.whatIf("a1", 0, "c1"), 2);
        Check.due("in place of a formula", s.whatIf("b1", -8, "c1"), -8);
        Check.due("in place of nothing", s.whatIf("b2", 0, "d1"), 3);
        Check.due("a formula that does not read it", s.whatIf("b1", 4, "e1"), 2);
        s.put("a1", "3");
        s.put("d1", "");
        int[] before = s.everything();
        Check.due("without the waiting edits", s.whatIf("b2", 5, "b1"), 10);
        Check.due("nor those of the cell itself", s.whatIf("a1", 0, "c1"), 2);
        Check.due("a waiting one by itself", s.whatIf("h9", 0, "a1"), 1);
        s.dueEverything(before);
        s.dueCount(10, 4);
        s.dueCount(11, 0);
    }

    private static void whatIfCells() {
        Sheet s = new Sheet();
        s.set("c4", "a1+h9");
        Check.due("the first cell", s.x.whatIf(0, 5, 26), 5);
        Check.due("the last cell", s.x.whatIf(71, 6, 26), 6);
    }

    private static void whatIfNumbers() {
        Sheet s = new Sheet();
        s.set("b1", "a1+1");
        for (int number : new int[] {-999999, -999998, -100000, -1, 0, 1, 9, 10, 123456, 999998, 999999}) {
            Check.due("itself", s.x.whatIf(0, number, 0), number);
            Check.due("its reader", s.x.whatIf(0, number, 1), number + 1);
        }
    }

    private static void whatIfOf() {
        Sheet s = new Sheet();
        s.set("a1", "c4", "h9", "c4*2");
        Check.due("the first cell", s.x.whatIf(26, 5, 0), 5);
        Check.due("the last cell", s.x.whatIf(26, 5, 71), 10);
    }

    private static void whatIfValue() {
        Sheet s = new Sheet();
        s.set("a1", "1", "b1", "a1*1000*1000", "c1", "c1+a1", "d1", "div(6,a1)");
        Check.due("the greatest", s.whatIf("a1", 1000, "b1"), 1000000000);
        Check.due("the least", s.whatIf("a1", -1000, "b1"), -1000000000);
        Check.due("of an empty cell", s.whatIf("a1", 5, "h9"), 0);
        Check.due("out of a cycle", s.whatIf("c1", 12, "c1"), 12);
        Check.due("out of an error", s.whatIf("c1", 3, "d1"), 6);
        s.x.rounds(5);
        Check.due("in rounds", s.whatIf("a1", -2, "c1"), -10);
        s.dueValue("c1", 5);
        s.dueCount(4, 5);
    }

    private static void whatIfInvalid() {
        CutoffSheet x = new CutoffSheet();
        Check.dueInvalid("cell", cell -> x.whatIf(cell, 0, 0), Check.NO_CELLS);
        Check.dueInvalid("of", cell -> x.whatIf(0, 0, cell), Check.NO_CELLS);
        Check.dueInvalid("number", number -> x.whatIf(0, number, 0), -1000000, 1000000, Integer.MIN_VALUE,
                Integer.MAX_VALUE);
        Check.due("all of them", x.whatIf(-1, 1000000, 72), Check.INVALID);
    }

    private static void whatIfError() {
        Sheet s = new Sheet();
        s.set("a1", "1", "b1", "div(6,a1)", "c1", "a1*1000*1000", "d1", "at(a1,a1)*0", "e1", "if(a1,5,e1)", "f1", "f1");
        Check.due("division", s.whatIf("a1", 0, "b1"), Check.MISSING);
        Check.due("too great", s.whatIf("a1", 1001, "c1"), Check.MISSING);
        Check.due("no such cell", s.whatIf("a1", 8, "d1"), Check.MISSING);
        Check.due("a cycle", s.whatIf("a1", 0, "e1"), Check.MISSING);
        Check.due("a cycle as it is", s.whatIf("a1", 5, "f1"), Check.MISSING);
        Check.due("none", s.whatIf("a1", -7, "b1"), -1);
        s.dueCount(7, 1);
    }

    private static void allCounts() {
        Sheet s = new Sheet();
        s.x.rounds(7);
        s.set("a1", "min(a1+1,2)", "b1", "a1", "c1", "div(1,0)", "d1", "5", "e1", "d1+1", "f1", "", "g1", "e1");
        s.put("h1", "1");
        s.put("a2", "1234");
        s.set("d1", "5", "h1", "", "a2", "12345");
        s.text("1+1+1+1+1");
        int[] want = {7, 0, 5, 1, 3, 1, 2, 1, 2, 7, 4, 9, 12};
        for (int what = 0; what <= 12; what++) {
            s.dueCount(what, want[what]);
        }
    }

    private static void countFormulas() {
        Sheet s = new Sheet();
        s.dueCount(0, 0);
        s.set("a1", "0", "b1", "div(1,0)", "c1", "", "d1", "d1");
        s.dueCount(0, 3);
        s.put("a1", "");
        s.put("c1", "1");
        s.put("e1", "1");
        s.dueCount(0, 3);
        s.x.update();
        s.dueCount(0, 4);
        ofAllCells("1").dueCount(0, 72);
    }

    private static void countWaiting() {
        Sheet s = new Sheet();
        s.dueCount(1, 0);
        s.put("a1", "");
        s.dueCount(1, 1);
        s.put("b1", "1");
        s.put("b1", "2");
        s.dueCount(1, 2);
        s.copy("b1", "c1");
        s.dueCount(1, 3);
        s.x.rounds(1);
        s.dueCount(1, 3);
        s.x.update();
        s.dueCount(1, 0);
    }

    private static void countRun() {
        Sheet s = new Sheet();
        s.dueCount(2, 0);
        s.set("a1", "1", "b1", "a1", "c1", "c1", "d1", "");
        s.dueCount(2, 4);
        s.set("a1", "2");
        s.dueCount(2, 3);
        s.set("a1", "2");
        s.dueCount(2, 2);
        s.x.rounds(1);
        s.dueCount(2, 1);
        s = ofAllCells("a1");
        s.set("a1", "1");
        s.dueCount(2, 72);
    }

    private static void countChanged() {
        Sheet s = new Sheet();
        s.dueCount(3, 0);
        s.set("a1", "1", "b1", "a1*0", "c1", "");
        s.dueCount(3, 2);
        s.set("a1", "2");
        s.dueCount(3, 1);
        s.set("a1", "2");
        s.dueCount(3, 0);
        s.set("a1", "3", "b1", "");
        s.dueCount(3, 2);
        s.x.rounds(2);
        s.dueCount(3, 0);
        s = ofAllCells("a1");
        s.set("a1", "1");
        s.dueCount(3, 72);
    }

    private static void countRounds() {
        Sheet s = new Sheet();
        s.dueCount(4, 0);
        s.set("a1", "a1+1");
        s.dueCount(4, 0);
        s.x.rounds(40);
        s.dueCount(4, 40);
        s.x.rounds(6);
        s.dueCount(4, 6);
        s.set("a1", "a1");
        s.dueCount(4, 1);
        s.set("a1", "1");
        s.dueCount(4, 0);
        s.dueCount(9, 6);
    }

    private static void countSettled() {
        Sheet s = new Sheet();
        s.dueCount(5, 1);
        s.set("a1", "a1");
        s.dueCount(5, 0);
        s.x.rounds(1);
        s.dueCount(5, 1);
        s.set("b1", "b1+1");
        s.dueCount(5, 0);
        s.set("b1", "7");
        s.dueCount(5, 1);
        s.x.rounds(0);
        s.dueCount(5, 0);
        s.set("a1", "div(1,0)");
        s.dueCount(5, 1);
    }

    private static void countCycles() {
        Sheet s = new Sheet();
        s.dueCount(6, 0);
        s.set("a1", "a1", "b1", "a1", "c1", "c2", "c2", "c1", "d1", "5");
        s.dueCount(6, 4);
        s.x.rounds(3);
        s.dueCount(6, 4);
        s.set("a1", "1");
        s.dueCount(6, 2);
        ofAllCells("a1").dueCount(6, 72);
    }

    private static void countErrors() {
        Sheet s = new Sheet();
        s.dueCount(7, 0);
        s.set("a1", "div(1,0)", "b1", "a1", "c1", "c1", "d1", "at(9,9)", "e1", "999999*9999", "f1", "0");
        s.dueCount(7, 5);
        s.x.rounds(1);
        s.dueCount(7, 4);
        s.set("a1", "", "d1", "");
        s.dueCount(7, 1);
        ofAllCells("a1").dueCount(7, 72);
    }

    private static void countHeight() {
        Sheet s = new Sheet();
        s.dueCount(8, 0);
        s.set("a1", "5");
        s.dueCount(8, 0);
        s.set("b1", "c9", "h9", "b1", "c1", "h9+a1", "d1", "a1");
        s.dueCount(8, 3);
        s.set("c1", "c1");
        s.dueCount(8, 2);
        s.set("b1", "b1");
        s.dueCount(8, 1);
        ofAllCells("a1").dueCount(8, 0);
        s = new Sheet();
        s.set("a1", "h9", "h9", "h8");
        s.dueCount(8, 2);
        s.set("a1", "", "h9", "a1", "a2", "h9");
        s.dueCount(8, 2);
    }

    private static void countRoundsSet() {
        Sheet s = new Sheet();
        s.dueCount(9, 0);
        s.x.rounds(40);
        s.dueCount(9, 40);
        s.set("a1", "a1");
        s.dueCount(9, 40);
        s.dueCount(4, 1);
        s.x.rounds(0);
        s.dueCount(9, 0);
    }

    private static void countStates() {
        Sheet s = new Sheet();
        for (int changes = 0; changes <= 6; changes++) {
            s.dueCount(10, Math.min(4, changes));
            s.text("1").x.put(changes);
        }
        s.x.undo();
        s.dueCount(10, 3);
    }

    private static void countText() {
        Sheet s = new Sheet();
        s.dueCount(11, 0);
        s.text("1+");
        s.dueCount(11, 2);
        s.text("(".repeat(30)).x.type('(');
        s.dueCount(11, 30);
        s.text("");
        s.dueCount(11, 0);
    }

    private static void countRuns() {
        Sheet s = new Sheet();
        s.dueCount(12, 0);
        s.set("a1", "1", "b1", "a1", "c1", "");
        s.dueCount(12, 3);
        s.set("a1", "2");
        s.dueCount(12, 5);
        s.put("a1", "3");
        s.dueCount(12, 5);
        s.set("d1", "d1+1");
        s.dueCount(12, 8);
        s.x.rounds(40);
        s.dueCount(12, 9);
        s.x.undo();
        s.dueCount(12, 8);
        s.whatIf("a1", 5, "b1");
        s.dueCount(12, 8);
    }

    private static void countOfAll() {
        Sheet s = new Sheet();
        for (int what = 0; what <= 12; what++) {
            s.dueCount(what, what == 5 ? 1 : 0);
        }
    }

    private static void countInvalid() {
        CutoffSheet x = new CutoffSheet();
        Check.dueInvalid("count", x::count, -1, 13, 14, Integer.MIN_VALUE, Integer.MAX_VALUE);
    }

    private static void undo() {
        Sheet s = new Sheet();
        s.put("a1", "1");
        s.x.update();
        s.copy("a1", "b1");
        s.x.drop();
        Check.due("undo of drop", s.x.undo(), 3);
        s.dueWaiting("b1");
        s.x.undo();
        s.dueWaiting();
        s.dueValue("a1", 1);
        s.x.undo();
        s.dueWaiting("a1");
        s.dueValue("a1", 0);
        s.dueRan();
        s.x.rounds(4);
        s.dueCount(9, 4);
        s.x.undo();
        s.dueCount(9, 0);
        s.dueWaiting("a1");
        s.x.undo();
        s.dueWaiting();
        s.dueCount(10, 0);
        s.set("c1", "2");
        s.dueRan("c1");
    }

    private static void undoAnswer() {
        Sheet s = new Sheet();
        s.x.rounds(1);
        Check.due("of one", s.x.undo(), 0);
        for (int rounds = 1; rounds <= 5; rounds++) {
            s.x.rounds(rounds);
        }
        for (int left = 3; left >= 0; left--) {
            Check.due("of " + (left + 1), s.x.undo(), left);
            s.dueCount(10, left);
        }
    }

    private static void undoNone() {
        Sheet s = new Sheet();
        Check.due("at first", s.x.undo(), Check.IMPOSSIBLE);
        s.text("1+").x.fault();
        s.x.put(0);
        s.x.whatIf(0, 1, 0);
        Check.due("behind calls that are no changes", s.x.undo(), Check.IMPOSSIBLE);
        s.x.rounds(0);
        s.x.undo();
        Check.due("behind the only one", s.x.undo(), Check.IMPOSSIBLE);
        for (int rounds = 1; rounds <= 5; rounds++) {
            s.x.rounds(rounds);
        }
        for (int left = 3; left >= 0; left--) {
            s.x.undo();
        }
        Check.due("behind four", s.x.undo(), Check.IMPOSSIBLE);
        s.dueCount(9, 1);
    }
}
