/** The faults of many texts, by their positions. */
public final class FaultTest {
    private FaultTest() {
    }

    public static void main(String[] args) {
        Sheet.dueNoFault("", "1", "000000", "999999", "a1", "h9", "--1", "1--1", "1*-2", "((a1))",
                "-(a1)*b2-3+4");
        Sheet.dueNoFault("if(1,2,3)", "pick(1,2)", "pick(1,2,3,4,5)", "div(1,2)", "mod(1,2)", "at(1,2)");
        Sheet.dueNoFault("min(1)", "max(a1,2,b1:c4,-1)", "sum(a1:a1)", "count(a1,b2:h9)", "sum(a1+b1)");
        Sheet.dueNoFault("at(at(1,2),3)", "sum(1,2,3,4)", "count(a1,b1,c1,d1)", "min(min(min(min(min(a1)))))");
        Sheet.dueNoFault("-----------------------------1", "((((((((((((((1))))))))))))))");
        Sheet.dueFault(0, " ", "+1", "*1", ")", ",", ":", "A1", "z", "~");
        Sheet.dueFault(1, "a", "a0", "a:", "1a", "1(", "1 ", "ix", "i1", "mu", "m", "-", "-+1", "(", "h(",
                "b+");
        Sheet.dueFault(2, "a11", "a1(", "a1 ", "a1:", "a1:b2", "if", "if1", "pi", "su5", "ma1", "co1", "1+",
                "1-", "1*+2", "1+)");
        Sheet.dueFault(3, "if(", "if()", "at(", "at(,1)", "1-a", "mod", "sum1", "1-2)", "1-2(");
        Sheet.dueFault(4, "if(1", "if(1)", "div(", "sum(", "sum()", "min(:", "max(+", "pick", "at(1)");
        Sheet.dueFault(5, "if(1,", "pick(", "div(1", "div(1)", "sum(9:a1)", "((1))(", "((1))a", "((1)))",
                "count", "at(1,", "min(a");
        Sheet.dueFault(6, "1234567", "if(1,2", "if(1,2)", "count(", "count(1", "count((", "count(-",
                "count(+", "count(i", "count()", "count(,");
        Sheet.dueFault(6, "sum(a1", "sum(a1;", "pick(1", "pick(1)", "sum(a111)");
        Sheet.dueFault(7, "sum(c4:", "sum(c4:b", "sum(c4:b5)", "sum(c4:i", "sum(c4:5)", "sum(-a1:b2)",
                "if(1,2,", "sum(a1:)", "sum(a1:,");
        Sheet.dueFault(7, "count(a", "count(a)", "count(a,", "count(at(1,2))", "mod(1,2", "div(1,2,3)",
                "at(1,22", "sum((a1:b2))");
        Sheet.dueFault(8, "sum(c4:d", "sum(c4:d)", "sum(c4:d,", "sum(c4:d3", "sum(c4:c1", "sum(c4:c0",
                "count(a1", "count(a1+b1)", "count(a1*2)");
        Sheet.dueFault(8, "if(1,2,3", "if(1,2,3,4)");
        Sheet.dueFault(9, "sum(c4:d4", "sum(a1:b2:c3)", "sum(a1:b2+1)", "if(1,2,3)4", "if(1,2,3))",
                "if(1,2,3)(");
        Sheet.dueFault(11, "sum(1,2,3,4,5)", "min(1,2,3,4,", "max(1,2,3,4;");
        Sheet.dueFault(14, "pick(1,2,3,4,5,6)", "pick(1,2,3,4,5;", "pick(1,2,3,4,5");
        Sheet.dueFault(17, "count(a1,b1,c1,d1,e1)", "count(a1,b1,c1,d1", "count(a1,b1,c1,d1*2)");
        Sheet.dueFault(30, "((((((((((((((((((((((((((((((", "------------------------------",
                "1+1+1+1+1+1+1+1+1+1+1+1+1+1+1+");
        Check.finish("FaultTest");
    }
}
