/** Promises 11 to 15, sentence by sentence. */
final class CellSentences {
    private CellSentences() {
    }

    static void hold(Sentences all) {
        all.under("Promise 11: value");
        all.hold("int value(int cell): Returns the value of a cell.", CellSentences::value);
        all.hold("cell: 0 to 71", CellSentences::valueCells);
        all.hold("Returns the value, 0 if it is empty", CellSentences::valueOfEmpty);
        all.hold("INVALID_ARGUMENT if cell is out of range", CellSentences::valueOutside);
        all.hold("NOT_FOUND if it has an error.", CellSentences::valueOfError);
        cellOf(all);
        all.under("Promise 13: letterAt");
        all.hold("int letterAt(int cell, int index): Returns a character of the formula of a cell.", CellSentences::letters);
        all.hold("cell: 0 to 71", CellSentences::letterCells);
        all.hold("index: 0 for the first one, and so on", CellSentences::letterFirst);
        all.hold("Returns the character", CellSentences::letterOfEach);
        all.hold("INVALID_ARGUMENT if cell is out of range or index is negative", CellSentences::letterInvalid);
        all.hold("NOT_FOUND if the formula has not so many.", CellSentences::letterMissing);
        all.under("Promise 14: readAt");
        all.hold("int readAt(int cell, int index): Returns a cell that a cell reads; they are in the order in which they "
                + "were read first.", CellSentences::reads);
        all.hold("cell: 0 to 71", CellSentences::readCells);
        all.hold("index: 0 for the first one, and so on", CellSentences::readFirst);
        all.hold("Returns the number of the cell that is read", CellSentences::readNumber);
        all.hold("INVALID_ARGUMENT if cell is out of range or index is negative", CellSentences::readInvalid);
        all.hold("NOT_FOUND if it reads not so many.", CellSentences::readMissing);
        all.under("Promise 15: readerAt");
        all.hold("int readerAt(int cell, int index): Returns a cell that reads a cell; they are in order by their numbers.",
                CellSentences::readers);
        all.hold("cell: 0 to 71", CellSentences::readerCells);
        all.hold("index: 0 for the first one, and so on", CellSentences::readerFirst);
        all.hold("Returns the number of the cell that reads", CellSentences::readerNumber);
        all.hold("INVALID_ARGUMENT if cell is out of range or index is negative", CellSentences::readerInvalid);
        all.hold("NOT_FOUND if not so many read it.", CellSentences::readerMissing);
    }

    private static void cellOf(Sentences all) {
        all.under("Promise 12: cellOf");
        all.hold("int cellOf(int cell, int what): Returns something of a cell.", CellSentences::something);
        all.hold("cell: 0 to 71", CellSentences::somethingCells);
        all.hold("what: 0: its error, 0 if it has none", CellSentences::errors);
        all.hold("1: its height", CellSentences::heights);
        all.hold("2: how many cells it reads", CellSentences::howManyReads);
        all.hold("3: 1 if it is empty, otherwise 0", CellSentences::isEmpty);
        all.hold("4: how often it has been run", CellSentences::howOftenRun);
        all.hold("5: 1 if it was run when the sheet was last brought up to date, otherwise 0", CellSentences::wasRun);
        all.hold("6: 1 if it changed then, otherwise 0", CellSentences::didChange);
        all.hold("7: 1 if it is in a cycle, otherwise 0", CellSentences::isInACycle);
        all.hold("8: the length of its formula", CellSentences::lengths);
        all.hold("Returns the number", CellSentences::numbers);
        all.hold("INVALID_ARGUMENT if an argument is out of range", CellSentences::somethingInvalid);
        all.hold("NOT_FOUND for 1 if it is in a cycle.", CellSentences::heightInACycle);
    }

    private static void value() {
        Sheet s = new Sheet();
        s.set("a1", "-5", "b1", "a1*a1", "c1", "1000*1000*1000", "d1", "-c1", "e1", "0");
        s.dueValue("a1", -5);
        s.dueValue("b1", 25);
        s.dueValue("c1", 1000000000);
        s.dueValue("d1", -1000000000);
        s.dueValue("e1", 0);
        s.put("a1", "6");
        s.dueValue("a1", -5);
        s.x.update();
        s.dueValue("b1", 36);
    }

    private static void valueCells() {
        Sheet s = new Sheet();
        s.set("a1", "3", "h9", "4");
        Check.due("the first cell", s.x.value(0), 3);
        Check.due("the last cell", s.x.value(71), 4);
    }

    private static void valueOfEmpty() {
        Sheet s = new Sheet();
        for (int cell = 0; cell < 72; cell++) {
            Check.due("value of " + cell, s.x.value(cell), 0);
        }
        s.set("a1", "5", "b1", "div(1,0)", "c1", "c1");
        s.set("a1", "", "b1", "", "c1", "");
        s.dueValue("a1", 0);
        s.dueValue("b1", 0);
        s.dueValue("c1", 0);
    }

    private static void valueOutside() {
        Check.dueInvalid("value", new CutoffSheet()::value, Check.NO_CELLS);
    }

    private static void valueOfError() {
        Sheet s = new Sheet();
        s.set("a1", "999999*9999", "b1", "div(1,0)", "c1", "at(8,0)", "d1", "d1");
        for (int cell = 0; cell < 4; cell++) {
            Check.due("value of error " + (cell + 1), s.x.value(cell), Check.MISSING);
        }
        s.set("b1", "div(1,1)");
        s.dueValue("b1", 1);
        s.x.rounds(1);
        s.dueValue("d1", 0);
    }

    /** All facts of a cell at once, so that none stands for another one. */
    private static void facts(Sheet s, String cell, int... want) {
        for (int what = 0; what <= 8; what++) {
            s.dueIs(cell, what, want[what]);
        }
    }

    private static void something() {
        Sheet s = new Sheet();
        s.set("a1", "7", "b1", "a1+c9+d9", "c1", "mod(b1,0)+b1", "d1", "d1");
        s.set("a1", "007");
        s.set("b1", "c9+a1");
        facts(s, "a1", 0, 0, 0, 0, 2, 0, 0, 0, 3);
        facts(s, "b1", 0, 1, 2, 0, 2, 1, 0, 0, 5);
        facts(s, "c1", 2, 2, 1, 0, 1, 0, 0, 0, 12);
        facts(s, "d1", 4, Check.MISSING, 1, 0, 3, 1, 0, 1, 2);
        facts(s, "e1", 0, 0, 0, 1, 0, 0, 0, 0, 0);
        s.set("b1", "", "c1", "", "d1", "", "e1", "");
        facts(s, "b1", 0, 0, 0, 1, 3, 1, 1, 0, 0);
        facts(s, "c1", 0, 0, 0, 1, 2, 1, 1, 0, 0);
        facts(s, "d1", 0, 0, 0, 1, 4, 1, 1, 0, 0);
        facts(s, "e1", 0, 0, 0, 1, 1, 1, 0, 0, 0);
    }

    private static void somethingCells() {
        Sheet s = new Sheet();
        s.set("a1", "333", "h9", "4444");
        Check.due("the first cell", s.x.cellOf(0, 8), 3);
        Check.due("the last cell", s.x.cellOf(71, 8), 4);
        Check.due("one between", s.x.cellOf(40, 8), 0);
    }

    private static void errors() {
        Sheet s = new Sheet();
        s.set("a1", "999999*9999", "b1", "div(1,0)", "c1", "at(8,0)", "d1", "d1", "e1", "5");
        for (int cell = 0; cell < 4; cell++) {
            Check.due("error of " + cell, s.x.cellOf(cell, 0), cell + 1);
        }
        s.dueIs("e1", 0, 0);
        s.dueIs("f1", 0, 0);
        s.set("a1", "", "b1", "1");
        s.dueIs("a1", 0, 0);
        s.dueIs("b1", 0, 0);
    }

    private static void heights() {
        Sheet s = new Sheet();
        s.dueIs("a1", 1, 0);
        s.set("a1", "1", "b1", "c9", "c1", "b1+a1", "d1", "if(a1,a1,c1)");
        s.dueIs("a1", 1, 0);
        s.dueIs("b1", 1, 1);
        s.dueIs("c1", 1, 2);
        s.dueIs("d1", 1, 1);
        s.set("a1", "0");
        s.dueIs("d1", 1, 3);
    }

    private static void howManyReads() {
        Sheet s = new Sheet();
        s.dueIs("a1", 2, 0);
        s.set("a1", "sum(a1:h9,a1:h9)", "b1", "5", "c1", "d1+d1", "e1", "if(b1,d1,d2)+d3");
        s.dueIs("a1", 2, 1);
        s.dueIs("b1", 2, 0);
        s.dueIs("c1", 2, 1);
        s.dueIs("e1", 2, 3);
        s.x.rounds(1);
        s.dueIs("a1", 2, 72);
        s.set("a1", "");
        s.dueIs("a1", 2, 0);
    }

    private static void isEmpty() {
        Sheet s = new Sheet();
        s.dueIs("a1", 3, 1);
        s.set("a1", "0", "b1", "div(1,0)");
        s.dueIs("a1", 3, 0);
        s.dueIs("b1", 3, 0);
        s.dueIs("c1", 3, 1);
        s.put("a1", "");
        s.dueIs("a1", 3, 0);
        s.x.update();
        s.dueIs("a1", 3, 1);
    }

    private static void howOftenRun() {
        Sheet s = new Sheet();
        s.dueIs("a1", 4, 0);
        s.set("a1", "0", "b1", "a1", "c1", "c1", "d1", "", "e1", "b1");
        for (int runs = 2; runs <= 5; runs++) {
            s.set("a1", runs % 2 == 0 ? "0" : "1");
            s.dueIs("a1", 4, runs);
        }
        s.dueIs("b1", 4, 4);
        s.dueIs("c1", 4, 5);
        s.dueIs("d1", 4, 1);
        s.dueIs("e1", 4, 4);
        s.x.rounds(40);
        s.dueIs("c1", 4, 6);
        s.dueIs("a1", 4, 5);
        s.x.undo();
        s.dueIs("c1", 4, 5);
    }

    private static void wasRun() {
        Sheet s = new Sheet();
        s.dueIs("a1", 5, 0);
        s.set("a1", "1", "b1", "a1", "c1", "");
        s.dueIs("a1", 5, 1);
        s.dueIs("c1", 5, 1);
        s.dueIs("d1", 5, 0);
        s.set("b1", "a1");
        s.dueIs("a1", 5, 0);
        s.dueIs("b1", 5, 1);
        s.put("a1", "5");
        s.dueIs("a1", 5, 0);
        s.x.rounds(3);
        s.dueIs("b1", 5, 0);
    }

    private static void didChange() {
        Sheet s = new Sheet();
        s.dueIs("a1", 6, 0);
        s.set("a1", "1", "b1", "a1*0", "c1", "");
        s.dueIs("a1", 6, 1);
        s.dueIs("b1", 6, 1);
        s.dueIs("c1", 6, 0);
        s.set("a1", "2");
        s.dueIs("a1", 6, 1);
        s.dueIs("b1", 6, 0);
        s.put("a1", "3");
        s.dueIs("a1", 6, 1);
        s.x.rounds(1);
        s.dueIs("a1", 6, 0);
        s.set("b1", "");
        s.dueIs("b1", 6, 1);
    }

    private static void isInACycle() {
        Sheet s = new Sheet();
        s.dueIs("a1", 7, 0);
        s.set("a1", "a1", "b1", "a1", "c1", "if(0,a1,1)", "d1", "div(1,0)+a1");
        s.dueIs("a1", 7, 1);
        s.dueIs("b1", 7, 1);
        s.dueIs("c1", 7, 0);
        s.dueIs("d1", 7, 0);
        s.x.rounds(5);
        s.dueIs("a1", 7, 1);
        s.dueIs("b1", 7, 1);
        s.set("a1", "");
        s.dueIs("a1", 7, 0);
        s.dueIs("b1", 7, 0);
    }

    private static void lengths() {
        Sheet s = new Sheet();
        s.dueIs("a1", 8, 0);
        s.set("a1", "7", "b1", "1+".repeat(14) + "11");
        s.dueIs("a1", 8, 1);
        s.dueIs("b1", 8, 30);
        s.put("a1", "777");
        s.dueIs("a1", 8, 1);
        s.set("b1", "");
        s.dueIs("a1", 8, 3);
        s.dueIs("b1", 8, 0);
    }

    private static void numbers() {
        Sheet s = new Sheet();
        s.set("a1", "b1", "b1", "c1", "c1", "d1", "d1", "e1", "e1", "5");
        for (int cell = 0; cell < 5; cell++) {
            Check.due("height of " + cell, s.x.cellOf(cell, 1), 4 - cell);
            Check.due("length of " + cell, s.x.cellOf(cell, 8), cell == 4 ? 1 : 2);
        }
    }

    private static void somethingInvalid() {
        CutoffSheet x = new CutoffSheet();
        for (int what = 0; what <= 8; what++) {
            int number = what;
            Check.dueInvalid("cellOf for " + what, cell -> x.cellOf(cell, number), Check.NO_CELLS);
        }
        Check.dueInvalid("cellOf of 5", what -> x.cellOf(5, what), -1, 9, Integer.MIN_VALUE, Integer.MAX_VALUE);
        Check.due("both", x.cellOf(72, 9), Check.INVALID);
        Check.due("the last of what", x.cellOf(5, 8), 0);
        Check.due("the first of what", x.cellOf(5, 0), 0);
    }

    private static void heightInACycle() {
        Sheet s = new Sheet();
        s.set("a1", "a1", "b1", "a1+1", "c1", "5");
        s.dueIs("a1", 1, Check.MISSING);
        s.dueIs("b1", 1, Check.MISSING);
        s.dueIs("c1", 1, 0);
        s.x.rounds(4);
        s.dueIs("a1", 1, Check.MISSING);
        s.dueIs("b1", 1, Check.MISSING);
        for (int what = 0; what <= 8; what++) {
            Check.due("an answer for " + what, what == 1 || s.of("a1", what) >= 0);
        }
        s.set("a1", "1");
        s.dueIs("a1", 1, 0);
        s.dueIs("b1", 1, 1);
    }

    private static void letters() {
        Sheet s = new Sheet();
        String longest = "sum(a1:h9,count(a1:h9),-1)*123";
        s.set("b2", longest, "c3", "007");
        s.dueFormula("b2", longest);
        s.dueFormula("c3", "007");
        s.put("c3", "1");
        s.dueFormula("c3", "007");
        s.x.update();
        s.dueFormula("c3", "1");
    }

    private static void letterCells() {
        Sheet s = new Sheet();
        s.set("a1", "3", "h9", "4");
        Check.due("the first cell", s.x.letterAt(0, 0), '3');
        Check.due("the last cell", s.x.letterAt(71, 0), '4');
    }

    private static void letterFirst() {
        Sheet s = new Sheet();
        s.set("c4", "1+b2");
        Check.due("the first one", s.x.letterAt(26, 0), '1');
        Check.due("the second one", s.x.letterAt(26, 1), '+');
        Check.due("the last one", s.x.letterAt(26, 3), '2');
    }

    /** All characters that a formula can have. */
    private static void letterOfEach() {
        Sheet s = new Sheet();
        s.set("a1", "567890-(b1*c1)+d1", "b1", "pick(1,max(e1:f2,g3))", "c1", "div(mod(h4,5),at(6,7))",
                "d1", "count(a8,b9)+sum(1)+min(3)", "e1", "if(0,1,2)");
        s.dueFormula("a1", "567890-(b1*c1)+d1");
        s.dueFormula("b1", "pick(1,max(e1:f2,g3))");
        s.dueFormula("c1", "div(mod(h4,5),at(6,7))");
        s.dueFormula("d1", "count(a8,b9)+sum(1)+min(3)");
        s.dueFormula("e1", "if(0,1,2)");
    }

    private static void letterInvalid() {
        Sheet s = new Sheet();
        s.set("a1", "123");
        Check.dueInvalid("letterAt of no cell", cell -> s.x.letterAt(cell, 0), Check.NO_CELLS);
        Check.dueInvalid("letterAt", index -> s.x.letterAt(0, index), Check.NEGATIVE);
        Check.dueInvalid("letterAt of an empty cell", index -> s.x.letterAt(5, index), Check.NEGATIVE);
        Check.due("both", s.x.letterAt(72, -1), Check.INVALID);
        Check.due("before the second row", s.x.letterAt(8, -1), Check.INVALID);
    }

    private static void letterMissing() {
        Sheet s = new Sheet();
        s.set("a1", "12", "b1", "345", "h9", "1+".repeat(14) + "11");
        Check.due("behind two", s.x.letterAt(0, 2), Check.MISSING);
        Check.due("thirty behind", s.x.letterAt(0, 30), Check.MISSING);
        Check.due("of an empty cell", s.x.letterAt(2, 0), Check.MISSING);
        Check.due("behind thirty", s.x.letterAt(71, 30), Check.MISSING);
        Check.due("the last of thirty", s.x.letterAt(71, 29), '1');
        Check.due("far behind", s.x.letterAt(71, Integer.MAX_VALUE), Check.MISSING);
        s.set("b1", "6");
        Check.due("of a shorter one", s.x.letterAt(1, 1), Check.MISSING);
    }

    private static void reads() {
        Sheet s = new Sheet();
        s.set("a1", "h9+b2+h9+c3*b2", "b1", "count(b3:c4,c3:c5)", "c1", "at(1,8)+if(d5,d6,d7)");
        s.dueReads("a1", "h9", "b2", "c3");
        s.dueReads("b1", "b3", "c3", "b4", "c4", "c5");
        s.dueReads("c1", "b9", "d5", "d7");
        s.set("d5", "1");
        s.dueReads("c1", "b9", "d5", "d6");
        s.put("a1", "a2");
        s.dueReads("a1", "h9", "b2", "c3");
    }

    private static void readCells() {
        Sheet s = new Sheet();
        s.set("a1", "c4", "h9", "c5");
        Check.due("the first cell", s.x.readAt(0, 0), 26);
        Check.due("the last cell", s.x.readAt(71, 0), 34);
    }

    private static void readFirst() {
        Sheet s = new Sheet();
        s.set("c4", "b2+a1");
        Check.due("the first one", s.x.readAt(26, 0), 9);
        Check.due("the second one", s.x.readAt(26, 1), 0);
    }

    private static void readNumber() {
        Sheet s = new Sheet();
        s.set("a1", "sum(b1:h9,a2:a9,a1)");
        s.x.rounds(1);
        for (int column = 1; column < 8; column++) {
            Check.due("read of row 1", s.x.readAt(0, column - 1), column);
            Check.due("read of row 9", s.x.readAt(0, 56 + column - 1), 64 + column);
        }
        Check.due("the last but one", s.x.readAt(0, 70), 64);
        Check.due("the last one", s.x.readAt(0, 71), 0);
    }

    private static void readInvalid() {
        Sheet s = new Sheet();
        s.set("a1", "b1", "a2", "b1+c1");
        Check.dueInvalid("readAt of no cell", cell -> s.x.readAt(cell, 0), Check.NO_CELLS);
        Check.dueInvalid("readAt", index -> s.x.readAt(8, index), Check.NEGATIVE);
        Check.dueInvalid("readAt of an empty cell", index -> s.x.readAt(5, index), Check.NEGATIVE);
        Check.due("both", s.x.readAt(72, -1), Check.INVALID);
    }

    private static void readMissing() {
        Sheet s = new Sheet();
        s.set("a1", "b1+c1+b1", "b2", "7", "h9", "sum(a1:g9,h1:h9)", "c3", "d3+div(1,0)+e3");
        Check.due("behind two", s.x.readAt(0, 2), Check.MISSING);
        Check.due("of a number", s.x.readAt(9, 0), Check.MISSING);
        Check.due("of an empty cell", s.x.readAt(10, 0), Check.MISSING);
        Check.due("behind an error", s.x.readAt(18, 1), Check.MISSING);
        s.set("c3", "");
        s.x.rounds(1);
        Check.due("the last of all", s.x.readAt(71, 71), 71);
        Check.due("behind all", s.x.readAt(71, 72), Check.MISSING);
        Check.due("far behind", s.x.readAt(71, Integer.MAX_VALUE), Check.MISSING);
    }

    private static void readers() {
        Sheet s = new Sheet();
        s.set("h9", "a1", "b1", "a1*2", "a1", "4", "c4", "if(a1,b1,h9)", "d4", "at(0,0)+d4");
        s.dueReaders("a1", "b1", "c4", "d4", "h9");
        s.dueReaders("b1", "c4");
        s.dueReaders("d4", "d4");
        s.put("e5", "a1");
        s.dueReaders("a1", "b1", "c4", "d4", "h9");
        s.set("a1", "0", "h9", "3");
        s.dueReaders("a1", "b1", "c4", "d4", "e5");
        s.dueReaders("h9", "c4");
    }

    private static void readerCells() {
        Sheet s = new Sheet();
        s.set("c4", "a1+h9", "c5", "h9");
        Check.due("the first cell", s.x.readerAt(0, 0), 26);
        Check.due("the last cell", s.x.readerAt(71, 1), 34);
    }

    private static void readerFirst() {
        Sheet s = new Sheet();
        s.set("h9", "c4", "a1", "c4");
        Check.due("the first one", s.x.readerAt(26, 0), 0);
        Check.due("the second one", s.x.readerAt(26, 1), 71);
    }

    /** All 72 cells read c4, itself too. */
    private static void readerNumber() {
        Sheet s = new Sheet().text("c4");
        for (int cell = 0; cell < 72; cell++) {
            s.x.put(cell);
            if (cell % 8 == 7) {
                s.x.update();
            }
        }
        for (int index = 0; index < 72; index++) {
            Check.due("reader " + index, s.x.readerAt(26, index), index);
        }
        Check.due("behind all", s.x.readerAt(26, 72), Check.MISSING);
    }

    private static void readerInvalid() {
        Sheet s = new Sheet();
        s.set("a1", "b1");
        Check.dueInvalid("readerAt of no cell", cell -> s.x.readerAt(cell, 0), Check.NO_CELLS);
        Check.dueInvalid("readerAt", index -> s.x.readerAt(1, index), Check.NEGATIVE);
        Check.dueInvalid("readerAt of none", index -> s.x.readerAt(5, index), Check.NEGATIVE);
        Check.due("both", s.x.readerAt(72, -1), Check.INVALID);
    }

    private static void readerMissing() {
        Sheet s = new Sheet();
        s.set("a1", "b1+b1", "c1", "b1", "d1", "if(1,b1,b2)");
        Check.due("behind three", s.x.readerAt(1, 3), Check.MISSING);
        Check.due("the last of three", s.x.readerAt(1, 2), 3);
        Check.due("what is not needed", s.x.readerAt(9, 0), Check.MISSING);
        Check.due("of none", s.x.readerAt(71, 0), Check.MISSING);
        Check.due("far behind", s.x.readerAt(1, Integer.MAX_VALUE), Check.MISSING);
        s.set("d1", "");
        Check.due("behind two", s.x.readerAt(1, 2), Check.MISSING);
    }
}
