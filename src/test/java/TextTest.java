/** Promises 1 to 4: a new object, type, clearText, fault. */
public final class TextTest {
    private TextTest() {
    }

    public static void main(String[] args) {
        newObject();
        constants();
        typing();
        clearing();
        faults();
        Check.finish("TextTest");
    }

    private static void newObject() {
        CutoffSheet x = null;
        for (int cell = 0; cell < 72; cell++) {
            x = cell % 36 == 0 ? new CutoffSheet() : x;
            Check.due("new value", x.value(cell), 0);
            for (int what = 0; what <= 8; what++) {
                Check.due("new cellOf " + what, x.cellOf(cell, what), what == 3 ? 1 : 0);
            }
        }
        x = new CutoffSheet();
        for (int what = 0; what <= 12; what++) {
            Check.due("new count " + what, x.count(what), what == 5 ? 1 : 0);
        }
        for (int cell = 0; cell < 72; cell++) {
            Check.due("new letterAt", x.letterAt(cell, 0), Check.MISSING);
            Check.due("new readAt", x.readAt(cell, 0), Check.MISSING);
            Check.due("new readerAt", x.readerAt(cell, 0), Check.MISSING);
            Check.due("new cause", x.cause(cell), Check.MISSING);
            Check.due("new chainAt", x.chainAt(cell, 0), Check.MISSING);
        }
        Check.due("new ranAt", x.ranAt(0), Check.MISSING);
        Check.due("new changedAt", x.changedAt(0), Check.MISSING);
        Check.due("new waitingAt", x.waitingAt(0), Check.MISSING);
        Check.due("new update", x.update(), Check.IMPOSSIBLE);
        Check.due("new drop", x.drop(), Check.IMPOSSIBLE);
        Check.due("new undo", x.undo(), Check.IMPOSSIBLE);
        Check.due("new whatIf", x.whatIf(3, 4, 5), 0);
        Check.due("new clearText", x.clearText(), 0);
    }

    private static void constants() {
        Check.due("INVALID_ARGUMENT", CutoffSheet.INVALID_ARGUMENT, -2000000001);
        Check.due("NOT_POSSIBLE", CutoffSheet.NOT_POSSIBLE, -2000000002);
        Check.due("LIMIT_REACHED", CutoffSheet.LIMIT_REACHED, -2000000003);
        Check.due("NOT_FOUND", CutoffSheet.NOT_FOUND, -2000000004);
    }

    private static void typing() {
        CutoffSheet x = new CutoffSheet();
        for (int wrong : new int[] {31, 127, -1, 0, 10, Integer.MIN_VALUE, Integer.MAX_VALUE}) {
            Check.due("type(" + wrong + ")", x.type(wrong), Check.INVALID);
        }
        Check.due("length behind wrong characters", x.count(11), 0);
        Check.due("type(32)", x.type(32), 1);
        Check.due("type(126)", x.type(126), 2);
        for (int length = 3; length <= 30; length++) {
            Check.due("type for length " + length, x.type('1'), length);
        }
        Check.due("type behind 30", x.type('1'), Check.LIMIT);
        Check.due("invalid rather than limit", x.type(127), Check.INVALID);
        Check.due("length at the limit", x.count(11), 30);
    }

    private static void clearing() {
        Sheet s = new Sheet();
        Check.due("clearText of none", s.x.clearText(), 0);
        s.text("abc");
        Check.due("clearText of three", s.x.clearText(), 3);
        s.dueCount(11, 0);
        Check.due("clearText again", s.x.clearText(), 0);
        Check.due("type behind clearText", s.x.type('a'), 1);
    }

    private static void none(String... texts) {
        for (String text : texts) {
            Check.due("fault of " + text, new Sheet().text(text).x.fault(), Check.MISSING);
        }
    }

    private static void at(int position, String... texts) {
        for (String text : texts) {
            Check.due("fault of " + text, new Sheet().text(text).x.fault(), position);
        }
    }

    private static void faults() {
        none("", "1", "000000", "999999", "a1", "h9", "--1", "1--1", "1*-2", "((a1))", "-(a1)*b2-3+4");
        none("if(1,2,3)", "pick(1,2)", "pick(1,2,3,4,5)", "div(1,2)", "mod(1,2)", "at(1,2)");
        none("min(1)", "max(a1,2,b1:c4,-1)", "sum(a1:a1)", "count(a1,b2:h9)", "sum(a1+b1)");
        none("at(at(1,2),3)", "sum(1,2,3,4)", "count(a1,b1,c1,d1)", "min(min(min(min(min(a1)))))");
        none("-----------------------------1", "((((((((((((((1))))))))))))))");
        at(0, " ", "+1", "*1", ")", ",", ":", "A1", "z", "~");
        at(1, "a", "a0", "a:", "1a", "1(", "1 ", "ix", "i1", "mu", "m", "-", "-+1", "(", "h(", "b+");
        at(2, "a11", "a1(", "a1 ", "a1:", "a1:b2", "if", "if1", "pi", "su5", "ma1", "co1", "1+", "1-", "1*+2", "1+)");
        at(3, "if(", "if()", "at(", "at(,1)", "1-a", "mod", "sum1", "1-2)", "1-2(");
        at(4, "if(1", "if(1)", "div(", "sum(", "sum()", "min(:", "max(+", "pick", "at(1)");
        at(5, "if(1,", "pick(", "div(1", "div(1)", "sum(9:a1)", "((1))(", "((1))a", "((1)))", "count", "at(1,", "min(a");
        at(6, "1234567", "if(1,2", "if(1,2)", "count(", "count(1", "count((", "count(-", "count(+", "count(i", "count()", "count(,");
        at(6, "sum(a1", "sum(a1;", "pick(1", "pick(1)", "sum(a111)");
        at(7, "sum(c4:", "sum(c4:b", "sum(c4:b5)", "sum(c4:i", "sum(c4:5)", "sum(-a1:b2)", "if(1,2,", "sum(a1:)", "sum(a1:,");
        at(7, "count(a", "count(a)", "count(a,", "count(at(1,2))", "mod(1,2", "div(1,2,3)", "at(1,22", "sum((a1:b2))");
        at(8, "sum(c4:d", "sum(c4:d)", "sum(c4:d,", "sum(c4:d3", "sum(c4:c1", "sum(c4:c0", "count(a1", "count(a1+b1)", "count(a1*2)");
        at(8, "if(1,2,3", "if(1,2,3,4)");
        at(9, "sum(c4:d4", "sum(a1:b2:c3)", "sum(a1:b2+1)", "if(1,2,3)4", "if(1,2,3))", "if(1,2,3)(");
        at(11, "sum(1,2,3,4,5)", "min(1,2,3,4,", "max(1,2,3,4;");
        at(14, "pick(1,2,3,4,5,6)", "pick(1,2,3,4,5;", "pick(1,2,3,4,5");
        at(17, "count(a1,b1,c1,d1,e1)", "count(a1,b1,c1,d1", "count(a1,b1,c1,d1*2)");
        at(30, "((((((((((((((((((((((((((((((", "------------------------------", "1+1+1+1+1+1+1+1+1+1+1+1+1+1+1+");
    }
}
