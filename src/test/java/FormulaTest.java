/** What formulas are worth, what they read, and which errors come up: the terms of the document. */
public final class FormulaTest {
    private FormulaTest() {
    }

    public static void main(String[] args) {
        numbers();
        bounds();
        choices();
        quotients();
        places();
        gathering();
        errorsOfAreas();
        emptyCells();
        Check.finish("FormulaTest");
    }

    private static void worth(String formula, int want) {
        Sheet s = new Sheet();
        s.set("h9", formula);
        s.dueValue("h9", want);
        s.dueError("h9", 0);
    }

    private static void fails(String formula, int error) {
        Sheet s = new Sheet();
        s.set("h9", formula);
        s.dueError("h9", error);
    }

    private static void numbers() {
        worth("0", 0);
        worth("000120", 120);
        worth("999999", 999999);
        worth("2+3*4", 14);
        worth("(2+3)*4", 20);
        worth("10-3-2", 5);
        worth("10-(3-2)", 9);
        worth("-2*-3", 6);
        worth("--5", 5);
        worth("-(2+3)*2", -10);
        worth("2*3*4-5*6+7", 1);
    }

    private static void bounds() {
        worth("1000*1000*1000", 1000000000);
        worth("-1000*1000*1000", -1000000000);
        fails("1000*1000*1000+1", 1);
        fails("-1000*1000*1000-1", 1);
        fails("1000*1000*1000+1-1", 1);
        worth("1000*1000*1000-1+1", 1000000000);
        fails("999999*9999*0", 1);
        worth("0*999999*9999", 0);
        fails("999999*999999*999999", 1);
        fails("1000*1000*1000*-2", 1);
        worth("sum(1000*1000*1000,-1,1)", 1000000000);
        fails("sum(1000*1000*1000,1,-1)", 1);
        fails("sum(-1000*1000*1000,-1,1)", 1);
        Sheet s = new Sheet();
        s.set("a1", "1000*1000*999", "b1", "1000*1000", "c1", "1", "d1", "-5", "e1", "div(1,0)");
        s.set("a2", "sum(a1:b1)", "b2", "sum(a1:e1)", "c2", "sum(a1:c1,e1)", "d2", "sum(d1,a1:c1)", "e2", "a1+b1+c1+e1");
        s.dueValue("a2", 1000000000);
        s.dueError("b2", 1);
        s.dueReads("b2", "a1", "b1", "c1");
        s.dueError("c2", 1);
        s.dueReads("c2", "a1", "b1", "c1");
        s.dueValue("d2", 999999996);
        s.dueError("e2", 1);
        s.dueReads("e2", "a1", "b1", "c1");
    }

    private static void choices() {
        worth("if(1,2,3)", 2);
        worth("if(0,2,3)", 3);
        worth("if(-1,2,3)+10", 12);
        worth("if(0,(2),if(1,4,5))*2", 8);
        worth("if(0,div(1,0),7)", 7);
        fails("if(1,div(1,0),7)", 2);
        fails("if(div(1,0),at(9,9),7)", 2);
        worth("pick(1,20,30)", 20);
        worth("pick(2,20,30)+1", 31);
        worth("pick(4,2,3,4,5)", 5);
        worth("pick(3,at(8,0),div(1,0),6)", 6);
        worth("pick(1,6,max(1,2),div(1,0))-1", 5);
        fails("pick(0,1,2)", 3);
        fails("pick(3,1,2)", 3);
        fails("pick(-1,1,2)", 3);
        fails("pick(5,1,2,3,4)", 3);
        fails("pick(999999*1000,1,2)", 3);
        fails("pick(div(1,0),1,2)", 2);
        Sheet s = new Sheet();
        s.set("a1", "if(b1,c1,d1)+e1", "a2", "pick(b2,c2,d2,c1)+e2", "b2", "2");
        s.dueReads("a1", "b1", "d1", "e1");
        s.dueReads("a2", "b2", "d2", "e2");
        s.set("b1", "1", "b2", "4");
        s.dueReads("a1", "b1", "c1", "e1");
        s.dueReads("a2", "b2");
        s.dueError("a2", 3);
    }

    private static void quotients() {
        int[][] rows = {{7, 2, 3, 1}, {-7, 2, -4, 1}, {7, -2, -4, -1}, {-7, -2, 3, -1}, {6, 3, 2, 0},
            {-6, 3, -2, 0}, {0, 5, 0, 0}, {5, 999999, 0, 5}, {-5, 999999, -1, 999994}, {5, -999999, -1, -999994}};
        for (int[] row : rows) {
            worth("div(" + row[0] + "," + row[1] + ")", row[2]);
            worth("mod(" + row[0] + "," + row[1] + ")", row[3]);
        }
        worth("div(-1000*1000*1000,-1)", 1000000000);
        worth("mod(-1000*1000*1000,999999)", 998999);
        worth("mod(1-1000*1000*1000,7*7)+0", 49 - 999999999 % 49);
        fails("div(1,0)", 2);
        fails("mod(0,0)", 2);
        fails("div(at(8,0),0)", 3);
        fails("mod(1,at(0,9))", 3);
        Sheet s = new Sheet();
        s.set("a1", "div(b1,c1)+d1", "b1", "mod(1,0)", "a2", "div(b2,c2)+d2");
        s.dueReads("a1", "b1");
        s.dueReads("a2", "b2", "c2");
    }

    private static void places() {
        Sheet s = new Sheet();
        s.set("a1", "11", "h9", "89", "c4", "34", "d1", "at(0,0)", "e1", "at(7,8)+1", "f1", "at(1+1,3)*2");
        s.dueValue("d1", 11);
        s.dueValue("e1", 90);
        s.dueValue("f1", 68);
        s.dueReads("f1", "c4");
        s.set("b1", "2", "b2", "3", "b3", "at(b1,b2)+a1", "b4", "at(b2,9*b1)+a1", "b5", "at(5,5)");
        s.dueValue("b3", 45);
        s.dueReads("b3", "b1", "b2", "c4", "a1");
        s.dueError("b4", 3);
        s.dueReads("b4", "b2", "b1");
        s.dueValue("b5", 0);
        s.dueReads("b5", "f6");
        for (String outside : new String[] {"at(8,0)", "at(-1,0)", "at(0,9)", "at(0,-1)", "at(9999*9999,0)"}) {
            fails(outside, 3);
        }
        fails("at(9,div(1,0))", 2);
    }

    private static void gathering() {
        worth("min(3,1,2)", 1);
        worth("max(3,1,2)", 3);
        worth("sum(3,1,2,-10)", -4);
        worth("min(5)", 5);
        worth("min(a1)", 0);
        worth("max(a1:c3)-1", -1);
        worth("sum(a1:c3)", 0);
        worth("count(a1:c3,d4)", 0);
        worth("max(a1:c3,-4)", -4);
        worth("max((a1),-4)", 0);
        worth("min(a1,4)", 4);
        worth("min(a1+0,4)", 0);
        worth("max(-a1,-4)", 0);
        Sheet s = new Sheet();
        s.set("b2", "5", "c2", "-7", "c3", "1", "d4", "0");
        s.set("a1", "min(b2:d4)", "a2", "max(b2:d4,4)", "a3", "sum(b2:d4,b2:c2)", "a4", "count(b2:d4,d4,a1:a1)");
        s.dueValue("a1", -7);
        s.dueValue("a2", 5);
        s.dueValue("a3", -3);
        s.dueValue("a4", 6);
        s.dueReads("a1", "b2", "c2", "d2", "b3", "c3", "d3", "b4", "c4", "d4");
        s.dueReads("a4", "b2", "c2", "d2", "b3", "c3", "d3", "b4", "c4", "d4", "a1");
        s.set("h1", "sum(c3:c3,b2,c3+b2)+min(b2:b3)", "h2", "sum(if(b2,c2,c3),count(b2))*2");
        s.dueValue("h1", 17);
        s.dueReads("h1", "c3", "b2", "b3");
        s.dueValue("h2", -12);
        s.dueReads("h2", "b2", "c2");
    }

    private static void errorsOfAreas() {
        Sheet s = new Sheet();
        s.set("b1", "div(1,0)", "c1", "at(9,9)", "a2", "count(a1:d1)", "b2", "min(c1,b1)", "c2", "max(3,b1:c1)");
        s.dueError("a2", 2);
        s.dueReads("a2", "a1", "b1");
        s.dueError("b2", 3);
        s.dueReads("b2", "c1");
        s.dueError("c2", 2);
        s.dueReads("c2", "b1");
        s.set("d2", "a2+b2", "e2", "sum(b1:c1,div(1,0))", "f2", "-b2*0", "g2", "if(b2,1,1)");
        s.dueError("d2", 2);
        s.dueReads("d2", "a2");
        s.dueError("e2", 2);
        s.dueError("f2", 3);
        s.dueError("g2", 3);
        s.dueCount(7, 9);
    }

    private static void emptyCells() {
        Sheet s = new Sheet();
        s.set("a1", "b1+3", "a2", "count(b1)", "a3", "b1*b1");
        s.dueValue("a1", 3);
        s.dueValue("a2", 0);
        s.dueReads("b1");
        Check.due("height of an empty cell", s.of("b1", 1), 0);
        Check.due("height of its reader", s.of("a1", 1), 1);
        s.dueReaders("b1", "a1", "a2", "a3");
    }
}
