/** A CutoffSheet whose cells are called by their names and whose texts are typed at once. */
final class Sheet {
    final CutoffSheet x = new CutoffSheet();

    static int cell(String name) {
        return (name.charAt(1) - '1') * 8 + name.charAt(0) - 'a';
    }

    static String name(int cell) {
        return cell < 0 ? "error " + cell : "" + (char) ('a' + cell % 8) + (char) ('1' + cell / 8);
    }

    /** Types a text in place of the one that is there. */
    Sheet text(String text) {
        if (text.length() > 30) {
            throw new IllegalArgumentException("too long to be typed: " + text);
        }
        x.clearText();
        for (char letter : text.toCharArray()) {
            x.type(letter);
        }
        return this;
    }

    int put(String cell, String formula) {
        return text(formula).x.put(cell(cell));
    }

    /** Puts pairs of a cell and a formula and brings the sheet up to date. */
    int set(String... pairs) {
        for (int i = 0; i + 1 < pairs.length; i += 2) {
            put(pairs[i], pairs[i + 1]);
        }
        return x.update();
    }

    int value(String cell) {
        return x.value(cell(cell));
    }

    int of(String cell, int what) {
        return x.cellOf(cell(cell), what);
    }

    int copy(String from, String to) {
        return x.copy(cell(from), cell(to));
    }

    int whatIf(String cell, int number, String of) {
        return x.whatIf(cell(cell), number, cell(of));
    }

    void dueValue(String cell, int want) {
        Check.due("value of " + cell, value(cell), want);
    }

    void dueError(String cell, int want) {
        Check.due("error of " + cell, of(cell, 0), want);
        if (want != 0) {
            Check.due("value of " + cell + " with an error", value(cell), Check.MISSING);
        }
    }

    void dueFormula(String cell, String want) {
        int number = cell(cell);
        Check.due("length of " + cell, x.cellOf(number, 8), want.length());
        for (int i = 0; i < want.length(); i++) {
            Check.due("letter " + i + " of " + cell, x.letterAt(number, i), want.charAt(i));
        }
        Check.due("letter behind " + cell, x.letterAt(number, want.length()), Check.MISSING);
    }

    void dueReads(String cell, String... want) {
        int number = cell(cell);
        for (int i = 0; i < want.length; i++) {
            Check.due("read " + i + " of " + cell, x.readAt(number, i), cell(want[i]));
        }
        Check.due("read behind those of " + cell, x.readAt(number, want.length), Check.MISSING);
        Check.due("reads of " + cell, x.cellOf(number, 2), want.length);
    }

    void dueReaders(String cell, String... want) {
        for (int i = 0; i < want.length; i++) {
            Check.due("reader " + i + " of " + cell, x.readerAt(cell(cell), i), cell(want[i]));
        }
        Check.due("reader behind those of " + cell, x.readerAt(cell(cell), want.length), Check.MISSING);
    }

    void dueRan(String... want) {
        for (int i = 0; i < want.length; i++) {
            Check.due("ranAt(" + i + ")", x.ranAt(i), cell(want[i]));
            Check.due("was " + want[i] + " run", of(want[i], 5), 1);
        }
        Check.due("ranAt behind all", x.ranAt(want.length), Check.MISSING);
        Check.due("how many were run", x.count(2), want.length);
    }

    void dueChanged(String... want) {
        for (int i = 0; i < want.length; i++) {
            Check.due("changedAt(" + i + ")", x.changedAt(i), cell(want[i]));
            Check.due("did " + want[i] + " change", of(want[i], 6), 1);
        }
        Check.due("changedAt behind all", x.changedAt(want.length), Check.MISSING);
        Check.due("how many changed", x.count(3), want.length);
    }

    void dueCause(String cell, String want) {
        Check.due("cause of " + cell, x.cause(cell(cell)), cell(want));
    }

    void dueNoCause(String cell) {
        Check.due("cause of " + cell, x.cause(cell(cell)), Check.MISSING);
        Check.due("chain of " + cell, x.chainAt(cell(cell), 0), Check.MISSING);
    }

    void dueChain(String... want) {
        int number = cell(want[0]);
        for (int i = 0; i < want.length; i++) {
            Check.due("chain of " + want[0] + " at " + i, x.chainAt(number, i), cell(want[i]));
        }
        Check.due("chain of " + want[0] + " behind its end", x.chainAt(number, want.length), Check.MISSING);
    }

    void dueCount(int what, int want) {
        Check.due("count(" + what + ")", x.count(what), want);
    }

    void dueIs(String cell, int what, int want) {
        Check.due("cellOf " + what + " of " + cell, of(cell, what), want);
    }

    void dueWaiting(String... want) {
        for (int i = 0; i < want.length; i++) {
            Check.due("waitingAt(" + i + ")", x.waitingAt(i), cell(want[i]));
        }
        Check.due("waitingAt behind all", x.waitingAt(want.length), Check.MISSING);
        Check.due("how many wait", x.count(1), want.length);
    }

    /** That a formula is worth a value in a sheet that has nothing else. */
    static void dueWorth(String formula, int want) {
        Sheet s = new Sheet();
        s.set("h9", formula);
        Check.due("value of " + formula, s.value("h9"), want);
        Check.due("error of " + formula, s.of("h9", 0), 0);
    }

    /** That a formula has an error in a sheet that has nothing else. */
    static void dueFails(String formula, int error) {
        Sheet s = new Sheet();
        s.set("h9", formula);
        Check.due("error of " + formula, s.of("h9", 0), error);
        Check.due("value of " + formula, s.value("h9"), Check.MISSING);
    }

    static void dueNoFault(String... texts) {
        dueFault(Check.MISSING, texts);
    }

    static void dueFault(int position, String... texts) {
        for (String text : texts) {
            Check.due("fault of " + text, new Sheet().text(text).x.fault(), position);
        }
    }

    /** What undo brings back, of the first six cells and all together. */
    int[] everything() {
        int[] answers = new int[154];
        int next = 0;
        for (int cell = 0; cell < 6; cell++) {
            answers[next++] = x.value(cell);
            answers[next++] = x.cause(cell);
            for (int what = 0; what <= 8; what++) {
                answers[next++] = x.cellOf(cell, what);
            }
            for (int index = 0; index < 3; index++) {
                answers[next++] = x.letterAt(cell, index);
                answers[next++] = x.readAt(cell, index);
                answers[next++] = x.chainAt(cell, index);
            }
        }
        for (int what = 0; what <= 12; what++) {
            answers[next++] = what == 10 || what == 11 ? 0 : x.count(what);
        }
        for (int index = 0; index < 7; index++) {
            answers[next++] = x.ranAt(index);
            answers[next++] = x.changedAt(index);
            answers[next++] = x.waitingAt(index);
        }
        return answers;
    }

    void dueEverything(int[] want) {
        int[] answers = everything();
        for (int i = 0; i < want.length; i++) {
            Check.due("answer " + i + " of all", answers[i], want[i]);
        }
    }
}
