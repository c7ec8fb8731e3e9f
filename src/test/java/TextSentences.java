/** Promises 1 to 4, sentence by sentence. */
final class TextSentences {
    private TextSentences() {
    }

    static void hold(Sentences all) {
        all.under("Promise 1: A new object");
        all.hold("CutoffSheet(): Creates a sheet of empty cells.", TextSentences::newObject);
        all.under("Promise 2: type");
        all.hold("int type(int character): Appends a character to the text.", TextSentences::appends);
        all.hold("character: 32 to 126", TextSentences::characters);
        all.hold("Returns the length of the text", TextSentences::length);
        all.hold("INVALID_ARGUMENT if character is out of range", TextSentences::noCharacters);
        all.hold("LIMIT_REACHED if it has 30 characters.", TextSentences::fullText);
        all.under("Promise 3: clearText");
        all.hold("int clearText(): Empties the text.", TextSentences::empties);
        all.hold("Returns the length it had.", TextSentences::formerLength);
        all.under("Promise 4: fault");
        all.hold("int fault(): Tells the fault of the text as a formula.", TextSentences::asAFormula);
        all.hold("Returns its position", TextSentences::position);
        all.hold("NOT_FOUND if there is none.", TextSentences::noFault);
    }

    private static void newObject() {
        for (int first = 0; first < 72; first += 36) {
            CutoffSheet x = new CutoffSheet();
            for (int cell = first; cell < first + 36; cell++) {
                Check.due("value of " + cell, x.value(cell), 0);
                for (int what = 0; what <= 8; what++) {
                    Check.due("cellOf(" + cell + ", " + what + ")", x.cellOf(cell, what), what == 3 ? 1 : 0);
                }
            }
        }
        CutoffSheet x = new CutoffSheet();
        for (int what = 0; what <= 12; what++) {
            Check.due("count(" + what + ")", x.count(what), what == 5 ? 1 : 0);
        }
        for (int cell = 0; cell < 72; cell++) {
            Check.due("letterAt of " + cell, x.letterAt(cell, 0), Check.MISSING);
            Check.due("readAt of " + cell, x.readAt(cell, 0), Check.MISSING);
            Check.due("readerAt of " + cell, x.readerAt(cell, 0), Check.MISSING);
            Check.due("cause of " + cell, x.cause(cell), Check.MISSING);
            Check.due("chainAt of " + cell, x.chainAt(cell, 0), Check.MISSING);
        }
        Check.due("update", x.update(), Check.IMPOSSIBLE);
        Check.due("undo", x.undo(), Check.IMPOSSIBLE);
        Check.due("whatIf", x.whatIf(3, 4, 5), 0);
        Check.due("another object", new Sheet().set("a1", "4"), 1);
        Check.due("has nothing to do with this one", x.value(0), 0);
    }

    private static void appends() {
        Sheet s = new Sheet();
        s.x.type('1');
        s.x.type('-');
        s.x.type('4');
        s.x.put(0);
        s.x.type('0');
        s.x.put(1);
        s.x.update();
        s.dueFormula("a1", "1-4");
        s.dueFormula("b1", "1-40");
    }

    private static void characters() {
        Check.due("the least", new Sheet().x.type(32), 1);
        Check.due("the greatest", new Sheet().x.type(126), 1);
        Sheet s = new Sheet();
        for (int character = 32; character <= 126; character++) {
            s.x.clearText();
            Check.due("type(" + character + ")", s.x.type(character), 1);
        }
    }

    private static void length() {
        CutoffSheet x = new CutoffSheet();
        for (int length = 1; length <= 30; length++) {
            Check.due("length", x.type('('), length);
        }
        x.clearText();
        Check.due("length of another text", x.type('('), 1);
    }

    private static void noCharacters() {
        CutoffSheet x = new CutoffSheet();
        Check.dueInvalid("type", x::type, 31, 127, -1, 0, 10, 128, 255, 32 + 256, 65568);
        Check.dueInvalid("type", x::type, Integer.MIN_VALUE, Integer.MAX_VALUE);
        Check.due("length", x.count(11), 0);
    }

    private static void fullText() {
        Sheet s = new Sheet().text("1+".repeat(14) + "1");
        Check.due("the thirtieth", s.x.type('2'), 30);
        Check.due("one more", s.x.type('3'), Check.LIMIT);
        Check.due("one more again", s.x.type('3'), Check.LIMIT);
        s.dueCount(11, 30);
        s.x.put(0);
        s.x.update();
        s.dueFormula("a1", "1+".repeat(14) + "12");
        s.x.clearText();
        Check.due("behind clearText", s.x.type('3'), 1);
    }

    private static void empties() {
        Sheet s = new Sheet().text("12");
        s.x.clearText();
        s.dueCount(11, 0);
        s.x.type('3');
        s.x.put(0);
        s.x.clearText();
        s.x.put(1);
        s.x.update();
        s.dueFormula("a1", "3");
        s.dueFormula("b1", "");
    }

    private static void formerLength() {
        Sheet s = new Sheet();
        Check.due("of none", s.x.clearText(), 0);
        Check.due("of one", s.text("a").x.clearText(), 1);
        Check.due("again", s.x.clearText(), 0);
        Check.due("of thirty", s.text("(".repeat(30)).x.clearText(), 30);
    }

    private static void asAFormula() {
        Sheet s = new Sheet();
        s.put("a1", "1+");
        Check.due("fault of the text", s.x.fault(), 2);
        s.x.type('2');
        Check.due("fault of the text as it is now", s.x.fault(), Check.MISSING);
        s.x.type('a');
        Check.due("fault at the end", s.x.fault(), 3);
        s.x.type('~');
        Check.due("the first fault", s.x.fault(), 3);
        s.dueCount(11, 5);
    }

    private static void position() {
        Sheet.dueFault(0, "+");
        Sheet.dueFault(1, "1)", "(");
        Sheet.dueFault(29, "(".repeat(29) + ")");
        Sheet.dueFault(30, "(".repeat(30));
    }

    private static void noFault() {
        Sheet.dueNoFault("", "1", "h9", "sum(a1:h9)", "1+".repeat(14) + "11");
    }
}
