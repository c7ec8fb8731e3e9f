/** What formulas are worth, what they read, and which errors come up: the terms of the document. */
public final class FormulaTest {
    private FormulaTest() {
    }

    public static void main(String[] args) {
        numbers();
        bounds();
        choices();
        quotients();
        places();
        gathering();
        errorsOfAreas();
        emptyCells();
        Check.finish("FormulaTest");
    }

    private static void numbers() {
        Sheet.dueWorth("0", 0);
        Sheet.dueWorth("000120", 120);
        Sheet.dueWorth("999999", 999999);
        Sheet.dueWorth("2+3*4", 14);
        Sheet.dueWorth("(2+3)*4", 20);
        Sheet.dueWorth("10-3-2", 5);
        Sheet.dueWorth("10-(3-2)", 9);
        Sheet.dueWorth("-2*-3", 6);
        Sheet.dueWorth("--5", 5);
        Sheet.dueWorth("-(2+3)*2", -10);
        Sheet.dueWorth("2*3*4-5*6+7", 1);
    }

    private static void bounds() {
        Sheet.dueWorth("1000*1000*1000", 1000000000);
        Sheet.dueWorth("-1000*1000*1000", -1000000000);
        Sheet.dueFails("1000*1000*1000+1", 1);
        Sheet.dueFails("-1000*1000*1000-1", 1);
        Sheet.dueFails("1000*1000*1000+1-1", 1);
        Sheet.dueWorth("1000*1000*1000-1+1", 1000000000);
        Sheet.dueFails("999999*9999*0", 1);
        Sheet.dueWorth("0*999999*9999", 0);
        Sheet.dueFails("999999*999999*999999", 1);
        Sheet.dueFails("1000*1000*1000*-2", 1);
        Sheet.dueWorth("sum(1000*1000*1000,-1,1)", 1000000000);
        Sheet.dueFails("sum(1000*1000*1000,1,-1)", 1);
        Sheet.dueFails("sum(-1000*1000*1000,-1,1)", 1);
        Sheet s = new Sheet();
        s.set("a1", "1000*1000*999", "b1", "1000*1000", "c1", "1", "d1", "-5", "e1", "div(1,0)");
        s.set("a2", "sum(a1:b1)", "b2", "sum(a1:e1)", "c2", "sum(a1:c1,e1)", "d2", "sum(d1,a1:c1)", "e2", "a1+b1+c1+e1");
        s.dueValue("a2", 1000000000);
        s.dueError("b2", 1);
        s.dueReads("b2", "a1", "b1", "c1");
        s.dueError("c2", 1);
        s.dueReads("c2", "a1", "b1", "c1");
        s.dueValue("d2", 999999996);
        s.dueError("e2", 1);
        s.dueReads("e2", "a1", "b1", "c1");
    }

    private static void choices() {
        Sheet.dueWorth("if(1,2,3)", 2);
        Sheet.dueWorth("if(0,2,3)", 3);
        Sheet.dueWorth("if(-1,2,3)+10", 12);
        Sheet.dueWorth("if(0,(2),if(1,4,5))*2", 8);
        Sheet.dueWorth("if(0,div(1,0),7)", 7);
        Sheet.dueFails("if(1,div(1,0),7)", 2);
        Sheet.dueFails("if(div(1,0),at(9,9),7)", 2);
        Sheet.dueWorth("pick(1,20,30)", 20);
        Sheet.dueWorth("pick(2,20,30)+1", 31);
        Sheet.dueWorth("pick(4,2,3,4,5)", 5);
        Sheet.dueWorth("pick(3,at(8,0),div(1,0),6)", 6);
        Sheet.dueWorth("pick(1,6,max(1,2),div(1,0))-1", 5);
        Sheet.dueFails("pick(0,1,2)", 3);
        Sheet.dueFails("pick(3,1,2)", 3);
        Sheet.dueFails("pick(-1,1,2)", 3);
        Sheet.dueFails("pick(5,1,2,3,4)", 3);
        Sheet.dueFails("pick(999999*1000,1,2)", 3);
        Sheet.dueFails("pick(div(1,0),1,2)", 2);
        Sheet s = new Sheet();
        s.set("a1", "if(b1,c1,d1)+e1", "a2", "pick(b2,c2,d2,c1)+e2", "b2", "2");
        s.dueReads("a1", "b1", "d1", "e1");
        s.dueReads("a2", "b2", "d2", "e2");
        s.set("b1", "1", "b2", "4");
        s.dueReads("a1", "b1", "c1", "e1");
        s.dueReads("a2", "b2");
        s.dueError("a2", 3);
    }

    private static void quotients() {
        int[][] rows = {{7, 2, 3, 1}, {-7, 2, -4, 1}, {7, -2, -4, -1}, {-7, -2, 3, -1}, {6, 3, 2, 0},
            {-6, 3, -2, 0}, {0, 5, 0, 0}, {5, 999999, 0, 5}, {-5, 999999, -1, 999994}, {5, -999999, -1, -999994}};
        for (int[] row : rows) {
            Sheet.dueWorth("div(" + row[0] + "," + row[1] + ")", row[2]);
            Sheet.dueWorth("mod(" + row[0] + "," + row[1] + ")", row[3]);
        }
        Sheet.dueWorth("div(-1000*1000*1000,-1)", 1000000000);
        Sheet.dueWorth("mod(-1000*1000*1000,999999)", 998999);
        Sheet.dueWorth("mod(1-1000*1000*1000,7*7)+0", 49 - 999999999 % 49);
        Sheet.dueFails("div(1,0)", 2);
        Sheet.dueFails("mod(0,0)", 2);
        Sheet.dueFails("div(at(8,0),0)", 3);
        Sheet.dueFails("mod(1,at(0,9))", 3);
        Sheet s = new Sheet();
        s.set("a1", "div(b1,c1)+d1", "b1", "mod(1,0)", "a2", "div(b2,c2)+d2");
        s.dueReads("a1", "b1");
        s.dueReads("a2", "b2", "c2");
    }

    private static void places() {
        Sheet s = new Sheet();
        s.set("a1", "11", "h9", "89", "c4", "34", "d1", "at(0,0)", "e1", "at(7,8)+1", "f1", "at(1+1,3)*2");
        s.dueValue("d1", 11);
        s.dueValue("e1", 90);
        s.dueValue("f1", 68);
        s.dueReads("f1", "c4");
        s.set("b1", "2", "b2", "3", "b3", "at(b1,b2)+a1", "b4", "at(b2,9*b1)+a1", "b5", "at(5,5)");
        s.dueValue("b3", 45);
        s.dueReads("b3", "b1", "b2", "c4", "a1");
        s.dueError("b4", 3);
        s.dueReads("b4", "b2", "b1");
        s.dueValue("b5", 0);
        s.dueReads("b5", "f6");
        for (String outside : new String[] {"at(8,0)", "at(-1,0)", "at(0,9)", "at(0,-1)", "at(9999*9999,0)"}) {
            Sheet.dueFails(outside, 3);
        }
        Sheet.dueFails("at(9,div(1,0))", 2);
    }

    private static void gathering() {
        Sheet.dueWorth("min(3,1,2)", 1);
        Sheet.dueWorth("max(3,1,2)", 3);
        Sheet.dueWorth("sum(3,1,2,-10)", -4);
        Sheet.dueWorth("min(5)", 5);
        Sheet.dueWorth("min(a1)", 0);
        Sheet.dueWorth("max(a1:c3)-1", -1);
        Sheet.dueWorth("sum(a1:c3)", 0);
        Sheet.dueWorth("count(a1:c3,d4)", 0);
        Sheet.dueWorth("max(a1:c3,-4)", -4);
        Sheet.dueWorth("max((a1),-4)", 0);
        Sheet.dueWorth("min(a1,4)", 4);
        Sheet.dueWorth("min(a1+0,4)", 0);
        Sheet.dueWorth("max(-a1,-4)", 0);
        Sheet s = new Sheet();
        s.set("b2", "5", "c2", "-7", "c3", "1", "d4", "0");
        s.set("a1", "min(b2:d4)", "a2", "max(b2:d4,4)", "a3", "sum(b2:d4,b2:c2)", "a4", "count(b2:d4,d4,a1:a1)");
        s.dueValue("a1", -7);
        s.dueValue("a2", 5);
        s.dueValue("a3", -3);
        s.dueValue("a4", 6);
        s.dueReads("a1", "b2", "c2", "d2", "b3", "c3", "d3", "b4", "c4", "d4");
        s.dueReads("a4", "b2", "c2", "d2", "b3", "c3", "d3", "b4", "c4", "d4", "a1");
        s.set("h1", "sum(c3:c3,b2,c3+b2)+min(b2:b3)", "h2", "sum(if(b2,c2,c3),count(b2))*2");
        s.dueValue("h1", 17);
        s.dueReads("h1", "c3", "b2", "b3");
        s.dueValue("h2", -12);
        s.dueReads("h2", "b2", "c2");
    }

    private static void errorsOfAreas() {
        Sheet s = new Sheet();
        s.set("b1", "div(1,0)", "c1", "at(9,9)", "a2", "count(a1:d1)", "b2", "min(c1,b1)", "c2", "max(3,b1:c1)");
        s.dueError("a2", 2);
        s.dueReads("a2", "a1", "b1");
        s.dueError("b2", 3);
        s.dueReads("b2", "c1");
        s.dueError("c2", 2);
        s.dueReads("c2", "b1");
        s.set("d2", "a2+b2", "e2", "sum(b1:c1,div(1,0))", "f2", "-b2*0", "g2", "if(b2,1,1)");
        s.dueError("d2", 2);
        s.dueReads("d2", "a2");
        s.dueError("e2", 2);
        s.dueError("f2", 3);
        s.dueError("g2", 3);
        s.dueCount(7, 9);
    }

    private static void emptyCells() {
        Sheet s = new Sheet();
        s.set("a1", "b1+3", "a2", "count(b1)", "a3", "b1*b1");
        s.dueValue("a1", 3);
        s.dueValue("a2", 0);
        s.dueReads("b1");
        Check.due("height of an empty cell", s.of("b1", 1), 0);
        Check.due("height of its reader", s.of("a1", 1), 1);
        s.dueReaders("b1", "a1", "a2", "a3");
    }
}
