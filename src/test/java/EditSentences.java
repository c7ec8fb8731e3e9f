/** Promises 5 to 10, sentence by sentence. */
final class EditSentences {
    private EditSentences() {
    }

    static void hold(Sentences all) {
        all.under("Promise 5: put");
        all.hold("int put(int cell): An edit waits: the cell gets the text as its formula; if the text is empty, the "
                + "cell becomes empty.", EditSentences::put);
        all.hold("The text stays.", EditSentences::textStays);
        all.hold("cell: 0 to 71", EditSentences::putCells);
        all.hold("Returns how many cells have a waiting edit then", EditSentences::putAnswer);
        all.hold("INVALID_ARGUMENT if cell is out of range", EditSentences::putOutside);
        all.hold("NOT_POSSIBLE if the text has a fault", EditSentences::putFault);
        all.hold("LIMIT_REACHED if 8 other cells have one.", EditSentences::putLimit);
        all.under("Promise 6: copy");
        all.hold("int copy(int from, int to): An edit waits: a cell gets the formula that another cell has (whatever "
                + "waits for that one), each cell in it shifted by as many columns and rows as the one cell is from the "
                + "other; if that one is empty, the cell becomes empty.", EditSentences::copy);
        all.hold("from: 0 to 71", EditSentences::copyFrom);
        all.hold("to: 0 to 71", EditSentences::copyTo);
        all.hold("Returns how many cells have a waiting edit then", EditSentences::copyAnswer);
        all.hold("INVALID_ARGUMENT if an argument is out of range", EditSentences::copyInvalid);
        all.hold("NOT_POSSIBLE if a shifted cell would be outside the sheet", EditSentences::copyOutside);
        all.hold("LIMIT_REACHED if 8 other cells have one.", EditSentences::copyLimit);
        all.under("Promise 7: drop");
        all.hold("int drop(): Drops all waiting edits.", EditSentences::drop);
        all.hold("Returns how many there were", EditSentences::dropAnswer);
        all.hold("NOT_POSSIBLE if there are none.", EditSentences::dropNone);
        all.under("Promise 8: waitingAt");
        all.hold("int waitingAt(int index): Returns a cell that has a waiting edit; they are in order by their numbers.",
                EditSentences::waitingInOrder);
        all.hold("index: 0 for the first one, and so on", EditSentences::waitingFirst);
        all.hold("Returns the number of the cell", EditSentences::waitingNumber);
        all.hold("INVALID_ARGUMENT if index is negative", EditSentences::waitingNegative);
        all.hold("NOT_FOUND if there are not so many.", EditSentences::waitingMissing);
        all.under("Promise 9: update");
        all.hold("int update(): Brings the sheet up to date.", EditSentences::update);
        all.hold("Returns how many cells are run", EditSentences::updateAnswer);
        all.hold("NOT_POSSIBLE if no edit waits.", EditSentences::updateNone);
        all.under("Promise 10: rounds");
        all.hold("int rounds(int rounds): Sets the rounds, and brings the sheet up to date without the waiting edits, "
                + "which go on waiting.", EditSentences::rounds);
        all.hold("rounds: 0 to 40", EditSentences::roundsRange);
        all.hold("Returns how many it were", EditSentences::roundsAnswer);
        all.hold("INVALID_ARGUMENT if rounds is out of range.", EditSentences::roundsOutside);
    }

    /** A sheet in which b2, c3 and so on wait for a 1, eight cells in all. */
    private static Sheet full() {
        Sheet s = new Sheet();
        s.set("a1", "5", "d1", "c1");
        s.text("1");
        for (int cell = 9; cell <= 72; cell += 9) {
            s.x.put(cell - (cell == 72 ? 1 : 0));
        }
        s.dueCount(1, 8);
        return s;
    }

    private static void put() {
        Sheet s = new Sheet();
        s.put("a1", "b1+1");
        s.dueWaiting("a1");
        s.dueFormula("a1", "");
        s.x.update();
        s.dueFormula("a1", "b1+1");
        s.dueValue("a1", 1);
        s.put("a1", "");
        s.dueWaiting("a1");
        s.dueValue("a1", 1);
        s.x.update();
        s.dueFormula("a1", "");
        s.dueIs("a1", 3, 1);
        s.put("b1", "");
        s.dueWaiting("b1");
    }

    private static void textStays() {
        Sheet s = new Sheet();
        s.put("a1", "12");
        s.dueCount(11, 2);
        s.x.put(1);
        s.x.update();
        s.dueCount(11, 2);
        Check.due("type behind put", s.x.type('3'), 3);
        s.x.put(2);
        s.x.update();
        s.dueFormula("b1", "12");
        s.dueFormula("c1", "123");
    }

    private static void putCells() {
        Sheet s = new Sheet().text("3");
        Check.due("the first cell", s.x.put(0), 1);
        Check.due("the last cell", s.x.put(71), 2);
        s.x.update();
        s.dueValue("a1", 3);
        s.dueValue("h9", 3);
        for (int cell = 0; cell < 72; cell++) {
            Check.due("put(" + cell + ")", s.x.put(cell), 1);
            s.x.drop();
        }
    }

    private static void putAnswer() {
        Sheet s = new Sheet();
        for (int edits = 1; edits <= 8; edits++) {
            Check.due("put", s.text("1").x.put(edits), edits);
        }
        Check.due("in place of another one", s.text("2").x.put(5), 8);
        s.x.drop();
        Check.due("an empty text", s.text("").x.put(5), 1);
        Check.due("the same again", s.x.put(5), 1);
    }

    private static void putOutside() {
        Sheet s = new Sheet().text("1");
        Check.dueInvalid("put", s.x::put, Check.NO_CELLS);
        s.text("");
        Check.dueInvalid("put of nothing", s.x::put, Check.NO_CELLS);
        s.dueCount(1, 0);
    }

    private static void putFault() {
        for (String text : new String[] {"+", "1+", "a", "a0", "sum(a1", "1234567", " ", "1 ", "(".repeat(30)}) {
            Sheet s = new Sheet();
            Check.due("put of " + text, s.put("a1", text), Check.IMPOSSIBLE);
            s.dueCount(1, 0);
            s.dueCount(10, 0);
        }
    }

    private static void putLimit() {
        Sheet s = full();
        Check.due("a ninth", s.x.put(0), Check.LIMIT);
        Check.due("a ninth that empties", s.text("").x.put(0), Check.LIMIT);
        s.dueCount(1, 8);
        Check.due("one of the eight", s.text("2").x.put(71), 8);
        s = new Sheet().text("1");
        for (int cell = 0; cell < 7; cell++) {
            s.x.put(cell);
        }
        Check.due("an eighth beside seven", s.x.put(40), 8);
        Check.due("a ninth beside eight", s.x.put(41), Check.LIMIT);
    }

    private static void copy() {
        Sheet s = new Sheet();
        s.set("b2", "a1+if(c3,count(a1:c3),h9)-10", "c3", "at(1,1)+a9*12", "d4", "d4+e5");
        s.put("c3", "7");
        s.put("e5", "8");
        s.copy("c3", "d2");
        s.copy("d4", "g6");
        s.copy("e5", "h9");
        s.copy("b2", "b2");
        s.dueFormula("d2", "");
        s.x.update();
        s.dueFormula("d2", "at(1,1)+b8*12");
        s.dueFormula("g6", "g6+h7");
        s.dueFormula("h9", "");
        s.dueFormula("b2", "a1+if(c3,count(a1:c3),h9)-10");
        s.dueFormula("c3", "7");
        s.copy("f1", "d2");
        s.dueWaiting("d2");
        s.x.update();
        s.dueFormula("d2", "");
        s.dueIs("d2", 3, 1);
        s.set("c5", "sum(b4:d7)+pick(1,b4)");
        s.copy("c5", "b3");
        s.x.update();
        s.dueFormula("b3", "sum(a2:c5)+pick(1,a2)");
        s.dueFormula("c5", "sum(b4:d7)+pick(1,b4)");
    }

    private static void copyFrom() {
        Sheet s = new Sheet();
        s.set("a1", "3", "h9", "4");
        Check.due("the first cell", s.x.copy(0, 5), 1);
        Check.due("the last cell", s.x.copy(71, 6), 2);
        s.x.update();
        s.dueValue("f1", 3);
        s.dueValue("g1", 4);
    }

    private static void copyTo() {
        Sheet s = new Sheet();
        s.set("c4", "d5");
        Check.due("the first cell", s.x.copy(26, 0), 1);
        s.set("d5", "6");
        s.dueFormula("a1", "b2");
        Check.due("the last cell", s.x.copy(35, 71), 1);
        s.x.update();
        s.dueFormula("h9", "6");
    }

    private static void copyAnswer() {
        Sheet s = new Sheet();
        s.set("a1", "b2", "b1", "5");
        for (int edits = 1; edits <= 7; edits++) {
            Check.due("copy", s.x.copy(1, edits * 8), edits);
        }
        Check.due("copy of an empty cell", s.x.copy(60, 61), 8);
        Check.due("in place of another one", s.copy("a1", "a2"), 8);
        s.x.drop();
        Check.due("to itself", s.copy("a1", "a1"), 1);
        Check.due("the same again", s.copy("a1", "a1"), 1);
    }

    private static void copyInvalid() {
        Sheet s = new Sheet();
        Check.dueInvalid("copy from", cell -> s.x.copy(cell, 0), Check.NO_CELLS);
        Check.dueInvalid("copy to", cell -> s.x.copy(0, cell), Check.NO_CELLS);
        Check.dueInvalid("copy from and to", cell -> s.x.copy(cell, cell), Check.NO_CELLS);
        s.dueCount(1, 0);
    }

    private static void copyOutside() {
        Sheet s = new Sheet();
        s.set("d5", "sum(b2:g8)", "d6", "12", "e5", "a1", "f5", "h9");
        Check.due("right to the edge", s.copy("d5", "e5"), 1);
        Check.due("right over the edge", s.copy("d5", "f5"), Check.IMPOSSIBLE);
        Check.due("left to the edge", s.copy("d5", "c5"), 2);
        Check.due("left over the edge", s.copy("d5", "b5"), Check.IMPOSSIBLE);
        Check.due("up to the edge", s.copy("d5", "d4"), 3);
        Check.due("up over the edge", s.copy("d5", "d3"), Check.IMPOSSIBLE);
        Check.due("down to the edge", s.copy("d5", "d6"), 4);
        Check.due("down over the edge", s.copy("d5", "d7"), Check.IMPOSSIBLE);
        Check.due("without a cell", s.copy("d6", "h9"), 5);
        Check.due("a1 left", s.copy("e5", "d5"), Check.IMPOSSIBLE);
        Check.due("a1 up", s.copy("e5", "e4"), Check.IMPOSSIBLE);
        Check.due("h9 right", s.copy("f5", "g5"), Check.IMPOSSIBLE);
        Check.due("h9 down", s.copy("f5", "f6"), Check.IMPOSSIBLE);
        s.dueWaiting("d4", "c5", "e5", "d6", "h9");
        s.x.update();
        s.dueFormula("e5", "sum(c2:h8)");
        s.dueFormula("c5", "sum(a2:f8)");
        s.dueFormula("d4", "sum(b1:g7)");
        s.dueFormula("d6", "sum(b3:g9)");
        s.dueFormula("h9", "12");
    }

    private static void copyLimit() {
        Sheet s = full();
        Check.due("a ninth", s.copy("d1", "e1"), Check.LIMIT);
        Check.due("a ninth that empties", s.copy("g1", "e1"), Check.LIMIT);
        Check.due("from one of the eight to a ninth", s.copy("b2", "e1"), Check.LIMIT);
        s.dueCount(1, 8);
        Check.due("one of the eight", s.copy("d1", "h9"), 8);
        s.x.drop();
        Check.due("behind drop", s.copy("d1", "e1"), 1);
    }

    private static void drop() {
        Sheet s = full();
        s.x.drop();
        s.dueWaiting();
        Check.due("update", s.x.update(), Check.IMPOSSIBLE);
        s.dueFormula("b2", "");
        s.dueFormula("a1", "5");
        s.put("c1", "4");
        Check.due("update of a later edit", s.x.update(), 2);
        s.dueFormula("b2", "");
    }

    private static void dropAnswer() {
        Check.due("eight", full().x.drop(), 8);
        Sheet s = new Sheet();
        s.put("a1", "");
        Check.due("one", s.x.drop(), 1);
    }

    private static void dropNone() {
        Sheet s = new Sheet();
        Check.due("at first", s.x.drop(), Check.IMPOSSIBLE);
        s.put("a1", "1");
        s.x.drop();
        Check.due("again", s.x.drop(), Check.IMPOSSIBLE);
        s.set("a1", "1");
        Check.due("behind update", s.x.drop(), Check.IMPOSSIBLE);
        s.dueCount(10, 4);
    }

    private static void waitingInOrder() {
        Sheet s = new Sheet();
        s.put("h9", "1");
        s.put("c4", "1");
        s.copy("c4", "a1");
        s.put("b1", "");
        s.put("c4", "2");
        s.dueWaiting("a1", "b1", "c4", "h9");
    }

    private static void waitingFirst() {
        Sheet s = new Sheet();
        s.put("h9", "1");
        Check.due("the first one", s.x.waitingAt(0), 71);
        s.put("g9", "1");
        Check.due("the first one", s.x.waitingAt(0), 70);
        Check.due("the second one", s.x.waitingAt(1), 71);
        s = full();
        Check.due("the eighth one", s.x.waitingAt(7), 71);
    }

    private static void waitingNumber() {
        Sheet s = new Sheet().text("1");
        for (int cell = 0; cell < 72; cell++) {
            s.x.put(cell);
            Check.due("waitingAt(0)", s.x.waitingAt(0), cell);
            s.x.drop();
        }
    }

    private static void waitingNegative() {
        Check.dueInvalid("waitingAt of none", new CutoffSheet()::waitingAt, Check.NEGATIVE);
        Check.dueInvalid("waitingAt of eight", full().x::waitingAt, Check.NEGATIVE);
    }

    private static void waitingMissing() {
        Sheet s = new Sheet();
        Check.due("of none", s.x.waitingAt(0), Check.MISSING);
        s = full();
        Check.due("of eight", s.x.waitingAt(8), Check.MISSING);
        Check.due("far behind", s.x.waitingAt(Integer.MAX_VALUE), Check.MISSING);
        s.x.update();
        Check.due("behind update", s.x.waitingAt(0), Check.MISSING);
    }

    private static void update() {
        Sheet s = new Sheet();
        s.put("a1", "5");
        s.put("b1", "a1+1");
        s.x.update();
        s.dueWaiting();
        s.dueValue("b1", 6);
        s.put("a1", "7");
        s.dueValue("b1", 6);
        s.x.update();
        s.dueValue("a1", 7);
        s.dueValue("b1", 8);
    }

    private static void updateAnswer() {
        Sheet s = new Sheet();
        Check.due("edited ones", s.set("a1", "2", "b1", "a1*a1", "c1", "b1+1"), 3);
        Check.due("up to the one that stays", s.set("a1", "-2"), 2);
        Check.due("the same formula", s.set("a1", "-2"), 1);
        Check.due("all of them", s.set("a1", "3"), 3);
        Check.due("an empty one that stays so", s.set("h9", ""), 1);
        Check.due("as many as were run", s.x.count(2), 1);
    }

    private static void updateNone() {
        Sheet s = new Sheet();
        Check.due("at first", s.x.update(), Check.IMPOSSIBLE);
        s.set("a1", "a1");
        Check.due("again", s.x.update(), Check.IMPOSSIBLE);
        s.put("a1", "1");
        s.x.drop();
        Check.due("behind drop", s.x.update(), Check.IMPOSSIBLE);
        s.dueFormula("a1", "a1");
        s.dueCount(2, 1);
    }

    private static void rounds() {
        Sheet s = new Sheet();
        s.set("a1", "a1+1", "b1", "a1*2", "c1", "5");
        s.put("a1", "9");
        s.put("d1", "c1");
        s.x.rounds(3);
        s.dueCount(9, 3);
        s.dueValue("a1", 3);
        s.dueValue("b1", 6);
        s.dueFormula("a1", "a1+1");
        s.dueFormula("d1", "");
        s.dueWaiting("a1", "d1");
        s.dueRan("a1", "b1");
        s.dueNoCause("d1");
        s.dueChanged("a1", "b1");
        s.dueCause("a1", "a1");
        Check.due("update", s.x.update(), 3);
        s.dueValue("d1", 5);
        s.dueCause("d1", "d1");
    }

    private static void roundsRange() {
        for (int rounds = 0; rounds <= 40; rounds++) {
            Sheet s = new Sheet();
            Check.due("rounds(" + rounds + ")", s.x.rounds(rounds), 0);
            s.dueCount(9, rounds);
        }
    }

    private static void roundsAnswer() {
        Sheet s = new Sheet();
        Check.due("at first", s.x.rounds(40), 0);
        Check.due("the most", s.x.rounds(40), 40);
        Check.due("the most again", s.x.rounds(0), 40);
        Check.due("none", s.x.rounds(7), 0);
        s.x.undo();
        Check.due("behind undo", s.x.rounds(9), 0);
    }

    private static void roundsOutside() {
        Sheet s = new Sheet();
        s.x.rounds(5);
        Check.dueInvalid("rounds", s.x::rounds, -1, 41, Integer.MIN_VALUE, Integer.MAX_VALUE);
        s.dueCount(9, 5);
        s.dueCount(10, 1);
    }
}
