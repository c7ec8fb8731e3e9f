/** What the document says under "Terms" of values and errors: what formulas are worth. */
final class ValueSentences {
    private ValueSentences() {
    }

    static void hold(Sentences all) {
        all.under("Terms");
        all.hold("A cell that is run has a value or an error.", ValueSentences::valueOrError);
        all.hold("All is worked out from left to right; the first error that comes up is the error of the cell, and "
                + "nothing more is read.", ValueSentences::leftToRight);
        all.hold("A value must be between -1000000000 and 1000000000, also each one that comes up between (of a sum "
                + "each one behind one more cell or part), otherwise this is error 1.", ValueSentences::bounds);
        all.hold("The value of an empty cell is 0.", ValueSentences::emptyCell);
        all.hold("if: the first formula; if it is not 0, the second one, otherwise the third one; only that one is "
                + "worked out.", ValueSentences::ifs);
        all.hold("pick: the first formula tells which of the others, 1 the first of them; only that one is worked out; "
                + "error 3 if there is no such.", ValueSentences::picks);
        all.hold("div: the first divided by the second, rounded down; mod: the first minus the second times div (this "
                + "product may be any); error 2 if the second is 0.", ValueSentences::quotients);
        all.hold("at: the first formula is a column (0 to 7), the second one a row (0 to 8), and that cell is read; "
                + "error 3, behind both, if there is no such.", ValueSentences::places);
        all.hold("An area is read row by row, each from left to right, empty cells, too.", ValueSentences::areas);
        all.hold("min, max and sum take the values of all cells of areas that are not empty, and of formulas; without "
                + "any they are 0.", ValueSentences::gathering);
        all.hold("count is how many cells of its areas are not empty; it reads them, too (so an error of one of them is "
                + "its error).", ValueSentences::counting);
        all.hold("To read a cell that has an error gives that error.", ValueSentences::readErrors);
    }

    private static void valueOrError() {
        Sheet s = new Sheet();
        s.set("a1", "5", "b1", "div(1,0)", "c1", "0", "d1", "");
        s.dueValue("a1", 5);
        s.dueError("a1", 0);
        s.dueError("b1", 2);
        s.dueValue("c1", 0);
        s.dueError("c1", 0);
        s.dueValue("d1", 0);
        s.dueError("d1", 0);
    }

    /** The formula is that of a1, and reads b1, c1 and d1 only ahead of its error. */
    private static void error(int error, String formula, String... reads) {
        Sheet s = new Sheet();
        s.set("a1", formula);
        Check.due("error of " + formula, s.of("a1", 0), error);
        s.dueReads("a1", reads);
    }

    private static void leftToRight() {
        error(2, "div(1,0)+at(9,9)");
        error(3, "at(9,9)+div(1,0)");
        error(2, "b1+div(1,0)+c1", "b1");
        error(2, "b1-div(1,0)*c1-d1", "b1");
        error(2, "0*div(1,0)");
        error(2, "-div(1,0)+b1");
        error(2, "(b1+div(1,0))*c1", "b1");
        error(1, "999999*999999*b1");
        error(1, "999999*9999+b1");
        error(2, "sum(b1,div(1,0),c1)", "b1");
        error(2, "min(div(1,0),b1:c1)");
        error(2, "max(b1:c1,div(1,0),d1)", "b1", "c1");
        error(2, "div(div(1,0),b1)");
        error(2, "mod(div(1,0),b1)");
        error(2, "at(div(1,0),b1)");
        error(2, "if(div(1,0),b1,c1)");
        error(2, "pick(div(1,0),b1,c1)");
        error(2, "pick(1,div(1,0),b1)+c1");
        error(2, "d1+if(b1,c1,div(b1,0))+c1", "d1", "b1");
    }

    private static void bounds() {
        Sheet.dueWorth("1000*1000*1000", 1000000000);
        Sheet.dueWorth("-1000*1000*1000", -1000000000);
        Sheet.dueFails("1000*1000*1000+1", 1);
        Sheet.dueFails("-1000*1000*1000-1", 1);
        Sheet.dueFails("1000*1000*1000--1", 1);
        Sheet.dueFails("1000*1000*1000+1-1", 1);
        Sheet.dueFails("1+1000*1000*1000", 1);
        Sheet.dueWorth("-333667*2997", -999999999);
        Sheet.dueFails("1001*999001", 1);
        Sheet.dueFails("-1001*999001", 1);
        Sheet.dueFails("999999*9999*0", 1);
        Sheet.dueFails("999999*999999*999999*999999", 1);
        Sheet.dueWorth("sum(1000*1000*1000,-1,1)", 1000000000);
        Sheet.dueFails("sum(1000*1000*1000,1,-1)", 1);
        Sheet.dueFails("sum(-1000*1000*1000,-1,1)", 1);
        Sheet.dueFails("0*sum(1000*1000*1000,1)", 1);
        Sheet.dueWorth("div(-1000*1000*1000,-1)", 1000000000);
        Sheet.dueWorth("max(1000*1000*1000,1,1)", 1000000000);
        Sheet s = new Sheet();
        s.set("a1", "1000*1000*1000", "b1", "1", "c1", "-1", "d1", "sum(a1:c1)", "e1", "sum(c1,a1:b1)", "f1", "a1+b1");
        s.dueError("d1", 1);
        s.dueReads("d1", "a1", "b1");
        s.dueValue("e1", 1000000000);
        s.dueError("f1", 1);
    }

    private static void emptyCell() {
        Sheet.dueWorth("a1+3", 3);
        Sheet.dueWorth("a1*5", 0);
        Sheet.dueWorth("if(a1,1,2)", 2);
        Sheet.dueWorth("at(3,4)-1", -1);
        Sheet.dueFails("div(1,a1)", 2);
        Sheet.dueFails("pick(a1,1,2)", 3);
        Sheet s = new Sheet();
        s.dueValue("a1", 0);
        s.set("a1", "7", "b1", "a1+1");
        s.set("a1", "");
        s.dueValue("a1", 0);
        s.dueValue("b1", 1);
    }

    private static void ifs() {
        Sheet.dueWorth("if(1,2,3)", 2);
        Sheet.dueWorth("if(-1,2,3)", 2);
        Sheet.dueWorth("if(999999,2,3)", 2);
        Sheet.dueWorth("if(0,2,3)", 3);
        Sheet.dueWorth("if(5-5,2,3)", 3);
        Sheet.dueWorth("if(1,2,div(1,0))", 2);
        Sheet.dueWorth("if(0,at(9,9),3)", 3);
        Sheet.dueWorth("if(1,if(0,1,2),if(1,3,4))*10", 20);
        Sheet s = new Sheet();
        s.set("a1", "1", "b1", "if(a1,c1,d1)+e1", "b2", "if(a2,c1,d1)+e1");
        s.dueReads("b1", "a1", "c1", "e1");
        s.dueReads("b2", "a2", "d1", "e1");
    }

    private static void picks() {
        Sheet.dueWorth("pick(1,20,30)", 20);
        Sheet.dueWorth("pick(2,20,30)", 30);
        Sheet.dueWorth("pick(4,2,3,4,5)+10", 15);
        Sheet.dueFails("pick(0,20,30)", 3);
        Sheet.dueFails("pick(-1,20,30)", 3);
        Sheet.dueFails("pick(2,20)", 3);
        Sheet.dueFails("pick(3,20,30)", 3);
        Sheet.dueFails("pick(4,2,3,4)", 3);
        Sheet.dueFails("pick(5,2,3,4,5)", 3);
        Sheet.dueFails("pick(1000*1000*1000,2)", 3);
        Sheet.dueWorth("pick(2,div(1,0),7,at(9,9))", 7);
        Sheet.dueWorth("pick(2,max(1,(2)),pick(1,5))", 5);
        Sheet s = new Sheet();
        s.set("a1", "2", "b1", "pick(a1,c1,d1,e1)+f1", "b2", "pick(a2,c1,d1)+f1");
        s.dueReads("b1", "a1", "d1", "f1");
        s.dueReads("b2", "a2");
        s.dueError("b2", 3);
    }

    private static void quotients() {
        int[][] rows = {{7, 2, 3, 1}, {-7, 2, -4, 1}, {7, -2, -4, -1}, {-7, -2, 3, -1}, {6, 3, 2, 0}, {-6, 3, -2, 0},
            {6, -3, -2, 0}, {0, 5, 0, 0}, {0, -5, 0, 0}, {1, 2, 0, 1}, {-1, 2, -1, 1}, {1, -2, -1, -1}, {5, 1, 5, 0}};
        for (int[] row : rows) {
            Sheet.dueWorth("div(" + row[0] + "," + row[1] + ")", row[2]);
            Sheet.dueWorth("mod(" + row[0] + "," + row[1] + ")", row[3]);
        }
        Sheet.dueWorth("mod(-1000*1000*1000,999999)", 998999);
        Sheet.dueWorth("mod(1000*1000*1000,-999999)", -998999);
        Sheet.dueWorth("mod(-1000*1000*1000,-1)", 0);
        Sheet.dueWorth("div(-1000*1000*1000,999999)", -1001);
        Sheet.dueFails("div(1,0)", 2);
        Sheet.dueFails("div(0,0)", 2);
        Sheet.dueFails("mod(1,0)", 2);
        Sheet.dueFails("mod(0,1-1)", 2);
        Sheet.dueFails("div(1,at(8,0))", 3);
        Sheet.dueFails("mod(at(8,0),0)", 3);
        error(2, "div(b1,c1)+d1", "b1", "c1");
    }

    private static void places() {
        Sheet s = new Sheet();
        s.set("a1", "11", "h9", "89", "h1", "18", "a9", "91");
        s.set("c3", "at(0,0)", "d3", "at(7,8)", "e3", "at(7,0)", "f3", "at(0,8)", "g3", "at(5,5)+1");
        s.dueValue("c3", 11);
        s.dueValue("d3", 89);
        s.dueValue("e3", 18);
        s.dueValue("f3", 91);
        s.dueValue("g3", 1);
        s.dueReads("d3", "h9");
        s.dueReads("g3", "f6");
        Sheet.dueFails("at(-1,0)", 3);
        Sheet.dueFails("at(8,0)", 3);
        Sheet.dueFails("at(0,-1)", 3);
        Sheet.dueFails("at(0,9)", 3);
        Sheet.dueFails("at(-1,1)", 3);
        Sheet.dueFails("at(1000*1000*1000,0)", 3);
        Sheet.dueFails("at(0,1000*1000*1000)", 3);
        Sheet.dueFails("at(9,div(1,0))", 2);
        error(3, "at(8+b1,c1)+d1", "b1", "c1");
        error(0, "at(1+b1,c1)+d1", "b1", "c1", "d1");
    }

    private static void areas() {
        Sheet s = new Sheet();
        s.set("a1", "sum(b2:d4)", "a2", "count(g8:h9,b2:b2)", "a3", "max(b2:b4)", "a4", "min(b2:d2)", "c3", "5");
        s.dueReads("a1", "b2", "c2", "d2", "b3", "c3", "d3", "b4", "c4", "d4");
        s.dueReads("a2", "g8", "h8", "g9", "h9", "b2");
        s.dueReads("a3", "b2", "b3", "b4");
        s.dueReads("a4", "b2", "c2", "d2");
        s.dueReaders("d4", "a1");
        s = new Sheet();
        s.set("h9", "sum(a1:h9)");
        s.dueIs("h9", 2, 72);
        Check.due("first of all", s.x.readAt(71, 0), 0);
        Check.due("eighth of all", s.x.readAt(71, 7), 7);
        Check.due("last of all", s.x.readAt(71, 71), 71);
        s.dueError("h9", 4);
    }

    private static void gathering() {
        Sheet.dueWorth("min(a1:c3)", 0);
        Sheet.dueWorth("max(a1)", 0);
        Sheet.dueWorth("sum(a1:c3,d4)", 0);
        Sheet.dueWorth("min(3,1,2)", 1);
        Sheet.dueWorth("max(3,1,2,-9)", 3);
        Sheet.dueWorth("sum(3,1,2,-9)", -3);
        Sheet.dueWorth("max(a1:c3,-4)", -4);
        Sheet.dueWorth("min(4,a1:c3)", 4);
        Sheet.dueWorth("max(-1000*1000*1000,a1)", -1000000000);
        Sheet s = new Sheet();
        s.set("b2", "5", "c2", "-7", "c3", "0", "d4", "-2");
        s.set("a1", "min(b2:d4)", "a2", "max(c2:d4)", "a3", "sum(b2:d4,b2)", "a4", "max(d2:d4)", "a5", "min(b2:b4)");
        s.dueValue("a1", -7);
        s.dueValue("a2", 0);
        s.dueValue("a3", 1);
        s.dueValue("a4", -2);
        s.dueValue("a5", 5);
    }

    private static void counting() {
        Sheet.dueWorth("count(a1:h8)", 0);
        Sheet.dueWorth("count(a1)", 0);
        Sheet s = new Sheet();
        s.set("b2", "5", "c2", "0", "d4", "b2", "e5", "div(1,0)");
        s.set("a1", "count(b2:d4)", "a2", "count(b2,c2:c3,d4)", "a3", "count(b2,e5,c2)", "a4", "count(c2:c2)");
        s.dueValue("a1", 3);
        s.dueValue("a2", 3);
        s.dueError("a3", 2);
        s.dueReads("a3", "b2", "e5");
        s.dueValue("a4", 1);
        s.dueReads("a4", "c2");
        s.set("a5", "count(a5)");
        s.dueError("a5", 4);
    }

    private static void readErrors() {
        Sheet s = new Sheet();
        s.set("a1", "999999*9999", "b1", "div(1,0)", "c1", "at(8,8)", "d1", "d1");
        s.set("a2", "a1*0", "b2", "if(b1,1,1)", "c2", "max(c1,1)", "d2", "-d1", "e2", "at(2,0)", "f2", "count(a1:d1)");
        s.dueError("a2", 1);
        s.dueError("b2", 2);
        s.dueError("c2", 3);
        s.dueError("d2", 4);
        s.dueError("e2", 3);
        s.dueError("f2", 1);
        s.set("a3", "a2", "b3", "div(a1,b2)", "c3", "sum(c2:d2)");
        s.dueError("a3", 1);
        s.dueError("b3", 1);
        s.dueError("c3", 3);
    }
}
