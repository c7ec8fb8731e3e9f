/** Promises 16 to 21: ranAt, changedAt, cause, chainAt, whatIf, count. */
public final class RunTest {
    private static final int[] OUTSIDE = {-1, 72, Integer.MIN_VALUE, Integer.MAX_VALUE};

    private RunTest() {
    }

    public static void main(String[] args) {
        outside();
        orderOfRuns();
        changes();
        causes();
        chains();
        whatIfs();
        whatIfsInRounds();
        counts();
        Check.finish("RunTest");
    }

    private static void outside() {
        CutoffSheet x = new CutoffSheet();
        for (int cell : OUTSIDE) {
            Check.due("cause(" + cell + ")", x.cause(cell), Check.INVALID);
            Check.due("chainAt(" + cell + ", 0)", x.chainAt(cell, 0), Check.INVALID);
            Check.due("whatIf(" + cell + ", 0, 0)", x.whatIf(cell, 0, 0), Check.INVALID);
            Check.due("whatIf(0, 0, " + cell + ")", x.whatIf(0, 0, cell), Check.INVALID);
        }
        for (int negative : new int[] {-1, Integer.MIN_VALUE}) {
            Check.due("ranAt(" + negative + ")", x.ranAt(negative), Check.INVALID);
            Check.due("changedAt(" + negative + ")", x.changedAt(negative), Check.INVALID);
            Check.due("chainAt(0, " + negative + ")", x.chainAt(0, negative), Check.INVALID);
            Check.due("count(" + negative + ")", x.count(negative), Check.INVALID);
        }
        for (int number : new int[] {-1000000, 1000000, Integer.MIN_VALUE, Integer.MAX_VALUE}) {
            Check.due("whatIf(0, " + number + ", 0)", x.whatIf(0, number, 0), Check.INVALID);
        }
        Check.due("count(13)", x.count(13), Check.INVALID);
        Check.due("count(max)", x.count(Integer.MAX_VALUE), Check.INVALID);
        Check.due("ranAt far behind", x.ranAt(Integer.MAX_VALUE), Check.MISSING);
        Check.due("changedAt far behind", x.changedAt(Integer.MAX_VALUE), Check.MISSING);
        Check.due("chainAt far behind", x.chainAt(0, Integer.MAX_VALUE), Check.MISSING);
    }

    private static void orderOfRuns() {
        Sheet s = new Sheet();
        s.set("h1", "1", "a1", "b1", "b1", "h1", "c1", "2", "d1", "d1", "a9", "d1", "e1", "b1", "b9", "");
        s.dueRan("c1", "h1", "b9", "b1", "a1", "e1", "d1", "a9");
        s.set("h1", "2");
        s.dueRan("h1", "b1", "a1", "e1", "d1", "a9");
        s.put("c1", "5");
        s.dueRan("h1", "b1", "a1", "e1", "d1", "a9");
        s.x.update();
        s.dueRan("c1", "d1", "a9");
        s.set("b1", "c1", "d1", "");
        s.dueRan("d1", "b1", "a9", "a1", "e1");
    }

    private static void changes() {
        Sheet s = new Sheet();
        s.set("h9", "3", "a1", "h9", "b2", "0*h9", "c3", "div(1,h9-3)");
        s.dueChanged("a1", "b2", "c3", "h9");
        s.set("h9", "4");
        s.dueChanged("a1", "c3", "h9");
        s.set("h9", "4+0");
        s.dueChanged();
        s.set("h9", "");
        s.dueChanged("a1", "c3", "h9");
        s.set("h9", "0");
        s.dueChanged("h9");
        s.dueRan("h9", "a1", "b2", "c3");
        s.x.rounds(1);
        s.dueChanged();
        s.dueRan();
    }

    private static void causes() {
        Sheet s = new Sheet();
        s.set("a1", "1", "b1", "2", "c1", "b1+a1", "d1", "c1+b1+a1", "e1", "if(a1,b1,f1)");
        s.dueCause("d1", "d1");
        s.set("a1", "5", "b1", "6");
        s.dueCause("a1", "a1");
        s.dueCause("c1", "b1");
        s.dueCause("d1", "c1");
        s.dueCause("e1", "a1");
        s.set("b1", "5", "c1", "a1+b1-5+4");
        s.dueCause("c1", "c1");
        s.dueCause("d1", "c1");
        s.dueCause("e1", "b1");
        s.dueNoCause("a1");
        s.set("a1", "0");
        s.dueNoCause("b1");
        s.set("b1", "77");
        s.dueNoCause("e1");
        s.set("f1", "8");
        s.dueCause("e1", "f1");
        s.dueNoCause("b1");
    }

    private static void chains() {
        Sheet s = new Sheet();
        s.set("a1", "1", "b1", "a1", "c1", "b1", "d1", "c1", "e1", "e1+a1");
        s.dueChain("d1");
        s.set("a1", "2");
        s.dueChain("d1", "c1", "b1", "a1");
        s.dueChain("b1", "a1");
        s.dueChain("a1");
        s.dueChain("e1");
        s.dueNoCause("f1");
        s.set("a1", "3", "c1", "b1+0");
        s.dueChain("d1", "c1");
        s = new Sheet();
        s.x.rounds(2);
        s.set("a1", "c1+1", "b1", "a1", "c1", "b1", "d1", "c1");
        s.x.rounds(3);
        s.dueChain("a1", "c1", "b1");
        s.dueChain("b1", "a1", "c1");
        s.dueChain("d1", "c1", "b1", "a1");
    }

    private static void whatIfs() {
        Sheet s = new Sheet();
        s.set("a1", "1", "b1", "a1*10", "c1", "if(a1,b1,d1)", "d1", "count(a1:d2)-count(d1)", "e1", "e1", "f1", "div(6,a1)");
        int runs = s.x.count(12);
        Check.due("itself", s.whatIf("a1", -999999, "a1"), -999999);
        Check.due("itself, great", s.whatIf("a1", 999999, "a1"), 999999);
        Check.due("a reader", s.whatIf("a1", 7, "b1"), 70);
        Check.due("a reader's reader", s.whatIf("a1", 7, "c1"), 70);
        Check.due("in place of a formula", s.whatIf("b1", 8, "c1"), 8);
        Check.due("another one", s.whatIf("b1", 8, "a1"), 1);
        Check.due("an error", s.whatIf("a1", 0, "f1"), Check.MISSING);
        Check.due("no error", s.whatIf("a1", 4, "f1"), 1);
        Check.due("negative", s.whatIf("a1", -4, "f1"), -2);
        Check.due("a cycle", s.whatIf("a1", 0, "c1"), Check.MISSING);
        Check.due("out of a cycle", s.whatIf("e1", 12, "e1"), 12);
        Check.due("another in a cycle", s.whatIf("a1", 12, "e1"), Check.MISSING);
        Check.due("too great", s.whatIf("a1", 999999, "b1"), 9999990);
        Check.due("an empty one", s.whatIf("a1", 5, "h9"), 0);
        Check.due("in place of nothing", s.whatIf("h9", 5, "h9"), 5);
        s.put("a1", "3");
        Check.due("without the waiting edits", s.whatIf("h9", 5, "b1"), 10);
        s.dueValue("b1", 10);
        s.dueFormula("a1", "1");
        s.dueCount(12, runs);
        s.dueCount(2, 6);
        s.dueCount(10, 4);
        s.dueCount(0, 6);
        Check.due("count of one more", countIfOneMore(), 3);
    }

    private static int countIfOneMore() {
        Sheet s = new Sheet();
        s.set("a1", "count(b1:h1)", "b1", "1", "c1", "b1");
        return s.whatIf("h1", 0, "a1");
    }

    private static void whatIfsInRounds() {
        Sheet s = new Sheet();
        s.x.rounds(5);
        s.set("a1", "a1+b1", "b1", "3", "c1", "a1*2");
        s.dueValue("c1", 30);
        Check.due("in rounds", s.whatIf("b1", -2, "c1"), -20);
        Check.due("into a cycle's place", s.whatIf("a1", 4, "c1"), 8);
        s.dueValue("c1", 30);
        s.dueCount(4, 5);
        s.dueCount(6, 2);
    }

    private static void counts() {
        Sheet s = new Sheet();
        s.x.rounds(2);
        s.set("a1", "a1+1", "b1", "a1", "c1", "div(1,0)", "d1", "5", "e1", "d1+1", "f1", "");
        s.put("g1", "1");
        s.put("h1", "1234");
        int[] want = {5, 2, 6, 5, 2, 0, 2, 1, 1, 2, 4, 4, 6};
        for (int what = 0; what <= 12; what++) {
            s.dueCount(what, want[what]);
        }
        s.x.rounds(0);
        s.x.drop();
        s.text("1+");
        int[] later = {5, 0, 2, 2, 0, 0, 2, 3, 1, 0, 4, 2, 8};
        for (int what = 0; what <= 12; what++) {
            s.dueCount(what, later[what]);
        }
        s.set("a1", "1", "d1", "");
        int[] last = {4, 0, 4, 4, 0, 1, 0, 1, 1, 0, 4, 0, 12};
        for (int what = 0; what <= 12; what++) {
            s.dueCount(what, last[what]);
        }
    }
}
