/** What the document says under "Terms" of cells, of the grammar, and of faults. */
final class FormulaSentences {
    private static final String[] GATHERING = {"min", "max", "sum", "count"};

    private FormulaSentences() {
    }

    static void hold(Sentences all) {
        all.under("Terms");
        all.hold("All numbers are whole numbers.", FormulaSentences::wholeNumbers);
        all.hold("There are 72 cells in 8 columns, a to h, and 9 rows, 1 to 9; the cell of a column and a row is "
                + "called by both, as c4.", FormulaSentences::columnsAndRows);
        all.hold("Cells are numbered by rows: a1 is 0, h1 is 7, a2 is 8, h9 is 71.", FormulaSentences::numbersOfCells);
        all.hold("A cell is empty (at first) or has a formula: a text of 1 to 30 characters, without spaces:",
                FormulaSentences::lengthsOfFormulas);
        all.hold("formula = product { (\"+\" | \"-\") product }", FormulaSentences::formula);
        all.hold("product = factor { \"*\" factor }", FormulaSentences::product);
        all.hold("factor = \"-\" factor | number | cell | \"(\" formula \")\" | function", FormulaSentences::factor);
        all.hold("number = 1 to 6 digits", FormulaSentences::number);
        all.hold("function = \"if(\" formula \",\" formula \",\" formula \")\" | \"pick(\" formula \",\" formula "
                + "{ \",\" formula } \")\" | \"div(\" formula \",\" formula \")\" | \"mod(\" formula \",\" formula \")\" | "
                + "\"at(\" formula \",\" formula \")\" | \"min(\" parts \")\" | \"max(\" parts \")\" | \"sum(\" parts \")\" | "
                + "\"count(\" areas \")\"", FormulaSentences::function);
        all.hold("parts = part { \",\" part }, part = area | formula; areas = area { \",\" area }",
                FormulaSentences::partsAndAreas);
        all.hold("area = cell | cell \":\" cell (the second one not left of the first one, nor above it)",
                FormulaSentences::area);
        all.hold("A pick has 2 to 5 formulas, the first one included, and there are 1 to 4 parts or areas.",
                FormulaSentences::howManyParts);
        all.hold("A part that is a cell alone is an area.", FormulaSentences::cellAlone);
        all.hold("Letters are small ones.", FormulaSentences::smallLetters);
        all.hold("The fault of a text is the position, from 0, of the first character such that no formula of any "
                + "length begins with the characters up to and including it; if there is none, but the text is no "
                + "formula, its length.", FormulaSentences::fault);
        all.hold("An empty text has no fault.", FormulaSentences::emptyText);
    }

    private static void wholeNumbers() {
        Sheet.dueWorth("div(7,2)*2", 6);
        Sheet.dueWorth("div(1,3)+div(2,3)", 0);
        Sheet.dueFault(1, "1.5");
    }

    private static void columnsAndRows() {
        Sheet.dueNoFault("a1", "h1", "a9", "h9");
        Sheet.dueFault(1, "i1", "a0", "h0", "a:", "a-");
        Sheet.dueFault(0, "`1", "j9", "z1", "_1");
        Sheet.dueFault(2, "a10", "h99");
        Sheet s = new Sheet();
        s.text("5").x.put(26);
        s.text("c4+1").x.put(0);
        s.x.update();
        s.dueValue("a1", 6);
        Check.due("the last cell", s.x.value(71), 0);
        Check.due("behind the last cell", s.x.value(72), Check.INVALID);
    }

    private static void numbersOfCells() {
        int[] cells = {0, 7, 8, 71};
        String[] names = {"a1", "h1", "a2", "h9"};
        for (int index = 0; index < 4; index++) {
            Sheet s = new Sheet();
            s.text("9").x.put(cells[index]);
            s.text(names[index]).x.put(40);
            s.x.update();
            Check.due("cell read as " + names[index], s.x.readAt(40, 0), cells[index]);
            Check.due("value read as " + names[index], s.x.value(40), 9);
        }
    }

    private static void lengthsOfFormulas() {
        String longest = "1+".repeat(14) + "11";
        Sheet s = new Sheet();
        s.dueIs("a1", 3, 1);
        s.put("a1", "7");
        s.put("b1", longest);
        Check.due("a character more", s.x.type('1'), Check.LIMIT);
        s.x.update();
        s.dueFormula("a1", "7");
        s.dueIs("a1", 3, 0);
        s.dueFormula("b1", longest);
        s.dueValue("b1", 25);
        Sheet.dueFault(0, " ", " 1");
        Sheet.dueFault(1, "1 ", "1 +1", "( 1)");
        Sheet.dueFault(2, "1+ 1", "if (1,2,3)");
    }

    private static void formula() {
        Sheet.dueNoFault("1", "1+2", "1-2", "1+2-3+4*5");
        Sheet.dueFault(0, "+1", "+");
        Sheet.dueFault(2, "1+", "1-", "1++2", "1-+2", "1+)");
        Sheet.dueWorth("10-3-2", 5);
        Sheet.dueWorth("10-3+2", 9);
        Sheet.dueWorth("10+3-2", 11);
    }

    private static void product() {
        Sheet.dueNoFault("1*2", "1*2*3*4");
        Sheet.dueFault(0, "*1", "*");
        Sheet.dueFault(2, "1*", "1**2", "1*+2", "1*)");
        Sheet.dueWorth("2+3*4", 14);
        Sheet.dueWorth("2*3+4*5-6*7", -16);
        Sheet.dueWorth("2*3*4", 24);
    }

    private static void factor() {
        Sheet.dueNoFault("-1", "--a1", "-(1)", "((1))", "-if(1,2,3)", "(a1)", "1--1", "1*-1");
        Sheet.dueFault(1, "-", "-+1", "(", "()", "1)", "1(", "(*");
        Sheet.dueFault(2, "(1", "--", "((", "a1a1", "a1(", "a1b");
        Sheet.dueWorth("-2*3", -6);
        Sheet.dueWorth("2*-3", -6);
        Sheet.dueWorth("---3", -3);
        Sheet.dueWorth("(2+3)*(4-6)", -10);
    }

    private static void number() {
        Sheet.dueNoFault("0", "9", "000000", "999999", "123456+654321");
        Sheet.dueFault(6, "1234567", "0000000", "000000a");
        Sheet.dueFault(7, "(1234567", "-000000a");
        Sheet.dueFault(8, "1+1234567");
        Sheet.dueWorth("000007", 7);
        Sheet.dueWorth("000000", 0);
        Sheet.dueWorth("999999", 999999);
        Sheet.dueWorth("0", 0);
    }

    private static void function() {
        Sheet.dueNoFault("if(1,2,3)", "pick(1,2)", "pick(1,2,3)", "pick(1,2,3,4)", "div(1,2)", "mod(1,2)", "at(1,2)");
        Sheet.dueNoFault("min(1)", "max(1)", "sum(1)", "count(a1)", "at(at(1,2),mod(a1,if(1,2,3)))");
        Sheet.dueFault(6, "if(1,2)", "pick(1)", "at(1,2,3)");
        Sheet.dueFault(4, "if(1)", "at(1)", "min()", "div(,1)", "if(1:");
        Sheet.dueFault(8, "if(1,2,3,4)", "div(1,2+");
        Sheet.dueFault(5, "div(1)", "mod(1)", "if(a1:b2,1,2)", "at(a1:a1,1)", "pick()", "at(1,)");
        Sheet.dueFault(7, "div(1,2,3)", "mod(1,2,3)", "div(1,2", "div(1,2:");
        Sheet.dueFault(3, "if()", "at()", "sum1", "mod[", "cout(a1)", "pic(1,2)", "at(*");
        Sheet.dueFault(2, "if1", "at1", "mix", "mac", "sun", "dim", "moc", "pik(1,2)", "if");
    }

    private static void partsAndAreas() {
        Sheet.dueNoFault("sum(1,a1,b1:c2,-a1)", "min(a1:a1,a1+1)", "max((a1),sum(1))", "count(a1,b1:c2,d4)");
        Sheet.dueFault(4, "sum(,1)", "sum(:");
        Sheet.dueFault(6, "sum(1,)", "sum(1,,2)", "count(1)", "count(-a1)", "count((a1))", "count(,a1)", "count(sum(1))");
        Sheet.dueFault(7, "sum(-a1:b2)", "sum((a1:b2))");
        Sheet.dueFault(8, "count(a1+b1)", "count(a1*2)");
        Sheet.dueFault(9, "count(a1,1)", "count(a1,)", "sum(a1:b2+1)", "sum(a1:b2:c3)", "sum(a1:b2*", "sum(a1+a1:b2)");
    }

    private static void area() {
        Sheet.dueNoFault("sum(a1)", "sum(c4:c4)", "sum(c4:c5)", "sum(c4:d4)", "sum(a1:h9)", "sum(h9:h9)");
        Sheet.dueNoFault("count(c4:c4)", "min(c4:c4)", "max(c4:h9)");
        Sheet.dueFault(7, "sum(c4:b4)", "sum(c4:b", "sum(h1:g9)", "sum(b9:a9)", "sum(c4:i", "sum(c4:4)", "sum(c4:");
        Sheet.dueFault(8, "sum(c4:c3)", "sum(c4:h3)", "sum(h9:h8)", "sum(a2:a1)", "sum(c4:c0)", "sum(a1:a0)", "sum(c4:d");
        Sheet.dueFault(9, "count(c4:b9)", "count(c4:a");
        Sheet.dueFault(6, "sum(12:a1)", "sum(-a:", "sum(a1;b2)", "count(4a:b9)", "count(12:a1)");
        Sheet.dueFault(7, "count(a:", "count(aa)", "count(a0:b9)", "count(h:h)");
        Sheet.dueFault(8, "sum(c4:d:", "sum(c4:dd)", "sum(c4:h:", "sum(a1:aa)");
        Sheet.dueFault(10, "count(c4:c3)", "sum(a1,c4:b");
    }

    private static void howManyParts() {
        Sheet.dueFault(6, "pick(1)", "pick(1");
        Sheet.dueNoFault("pick(1,2)", "pick(1,2,3,4,5)");
        Sheet.dueFault(14, "pick(1,2,3,4,5,6)", "pick(1,2,3,4,5,", "pick(1,2,3,4,5");
        for (String name : GATHERING) {
            int open = name.length() + 1;
            Sheet.dueFault(open, name + "()", name + "(");
            Sheet.dueNoFault(name + "(a1)", name + "(a1,b1)", name + "(a1,b1,c1)", name + "(a1,b1,c1,d1)");
            Sheet.dueFault(open + 11, name + "(a1,b1,c1,d1,e1)", name + "(a1,b1,c1,d1,", name + "(a1,b1,c1,d1");
        }
        Sheet.dueFault(11, "sum(1,2,3,4,5)", "min(1,2,3,4,", "max(1,2,3,4");
        Sheet.dueWorth("pick(1,20)", 20);
        Sheet.dueWorth("pick(4,20,30,40,50)", 50);
        Sheet.dueWorth("sum(1)", 1);
        Sheet.dueWorth("sum(1,2,3,4)", 10);
    }

    private static void cellAlone() {
        Sheet.dueWorth("min(a1,4)", 4);
        Sheet.dueWorth("max(-4,a1)", -4);
        Sheet.dueWorth("min((a1),4)", 0);
        Sheet.dueWorth("min(a1+0,4)", 0);
        Sheet.dueWorth("max(-4,-a1)", 0);
        Sheet.dueWorth("min(4,a1,b1)", 4);
    }

    private static void smallLetters() {
        Sheet.dueFault(0, "A1", "H9", "IF(1,2,3)", "Sum(1)");
        Sheet.dueFault(1, "sUM(1)", "aT(1,2)", "cOUNT(a1)");
        Sheet.dueFault(7, "sum(a1:B2)");
        Sheet.dueFault(2, "maX(1)", "1+A1");
    }

    private static void fault() {
        for (char first = ' '; first <= '~'; first++) {
            boolean isWhole = "0123456789".indexOf(first) >= 0;
            boolean isBegun = "-(abcdefghimps".indexOf(first) >= 0;
            Sheet.dueFault(isWhole ? Check.MISSING : isBegun ? 1 : 0, "" + first);
            boolean goesOn = isWhole || "+-*".indexOf(first) >= 0;
            Sheet.dueFault(goesOn && isWhole ? Check.MISSING : goesOn ? 2 : 1, "1" + first);
            Sheet.dueFault("123456789".indexOf(first) >= 0 ? Check.MISSING : first == 't' ? 2 : 1, "a" + first);
        }
        Sheet.dueFault(0, "~~", "+~");
        Sheet.dueFault(6, "1234567+", "if(1,2)+~");
        Sheet.dueFault(1, "a", "(", "-", "m", "i", "p", "s", "d", "c");
        Sheet.dueFault(4, "if(1", "sum(", "1+1+", "coun", "pick");
        Sheet.dueFault(30, "(".repeat(30), "-".repeat(30), "1+".repeat(15));
        Sheet.dueFault(30, "1+".repeat(11) + "count(h9", "1+".repeat(14) + "co");
        Sheet.dueFault(29, "1+".repeat(14) + "1)", "1+".repeat(14) + "c0", "(".repeat(29) + "~");
        Sheet.dueNoFault("1+".repeat(14) + "11", "-".repeat(29) + "1", "(".repeat(14) + "a1" + ")".repeat(14));
    }

    private static void emptyText() {
        Sheet s = new Sheet();
        Check.due("fault at first", s.x.fault(), Check.MISSING);
        s.text("+");
        Check.due("fault of a text", s.x.fault(), 0);
        s.text("");
        Check.due("fault of an emptied text", s.x.fault(), Check.MISSING);
        Check.due("put of an empty text", s.x.put(0), 1);
    }
}
