/** Runs of 512 calls, of which each answer is compared with that of the model. */
public final class ModelTest {
    private static final int RUNS = 3000;
    private static final int CALLS = 512;

    private final CutoffSheet sheet = new CutoffSheet();
    private final Model model = new Model();
    private final Dice dice;
    private final Formulas formulas;
    private final int run;
    private int calls;

    private ModelTest(int run) {
        this.run = run;
        dice = new Dice(run);
        formulas = new Formulas(dice, dice.roll(6), dice.roll(7));
    }

    public static void main(String[] args) {
        for (int run = 0; run < RUNS; run++) {
            new ModelTest(run).go();
        }
        Check.finish("ModelTest");
    }

    private void go() {
        if (dice.oneIn(3)) {
            rounds();
        }
        while (calls < CALLS) {
            if (dice.oneIn(3)) {
                edit();
            } else {
                ask();
            }
        }
    }

    private void due(String call, int got, int want) {
        calls++;
        if (calls <= CALLS) {
            Check.due("run " + run + ", call " + calls + ", " + call, got, want);
        }
    }

    private void edit() {
        int kind = dice.roll(30);
        if (kind < 12) {
            write(formulas.formula());
            put();
        } else if (kind < 14) {
            put();
        } else if (kind == 14) {
            write("");
            put();
        } else if (kind < 17) {
            int from = cell();
            int to = cell();
            due("copy(" + from + ", " + to + ")", sheet.copy(from, to), model.copy(from, to));
        } else if (kind < 24) {
            due("update()", sheet.update(), model.update());
        } else if (kind == 24) {
            rounds();
        } else if (kind == 25 && dice.oneIn(4)) {
            due("drop()", sheet.drop(), model.drop());
        } else if (kind < 28) {
            due("undo()", sheet.undo(), model.undo());
        } else {
            faulty();
        }
    }

    private void put() {
        int cell = cell();
        due("put(" + cell + ")", sheet.put(cell), model.put(cell));
    }

    private void rounds() {
        int rounds = dice.oneIn(8) ? dice.roll(44) - 2 : dice.roll(6);
        due("rounds(" + rounds + ")", sheet.rounds(rounds), model.rounds(rounds));
    }

    private void write(String text) {
        due("clearText()", sheet.clearText(), model.clearText());
        for (char letter : text.toCharArray()) {
            due("type(" + (int) letter + ")", sheet.type(letter), model.type(letter));
        }
    }

    private void faulty() {
        int character = dice.oneIn(5) ? dice.roll(140) - 5 : "1a:,()+-*mi9".charAt(dice.roll(12));
        due("type(" + character + ")", sheet.type(character), model.type(character));
        due("fault()", sheet.fault(), model.fault());
    }

    private int cell() {
        return dice.oneIn(60) ? dice.roll(76) - 2 : formulas.cell();
    }

    private int index() {
        return dice.oneIn(30) ? dice.roll(75) - 1 : dice.roll(4);
    }

    private void ask() {
        int cell = cell();
        int index = index();
        String both = "(" + cell + ", " + index + ")";
        switch (dice.roll(12)) {
            case 0:
                due("waitingAt(" + index + ")", sheet.waitingAt(index), model.waitingAt(index));
                break;
            case 1:
                due("value(" + cell + ")", sheet.value(cell), model.value(cell));
                break;
            case 2:
            case 3:
                int what = dice.roll(20) == 0 ? dice.roll(12) - 1 : dice.roll(9);
                due("cellOf(" + cell + ", " + what + ")", sheet.cellOf(cell, what), model.cellOf(cell, what));
                break;
            case 4:
                due("letterAt" + both, sheet.letterAt(cell, index), model.letterAt(cell, index));
                break;
            case 5:
                due("readAt" + both, sheet.readAt(cell, index), model.readAt(cell, index));
                break;
            case 6:
                due("readerAt" + both, sheet.readerAt(cell, index), model.readerAt(cell, index));
                break;
            case 7:
                due("ranAt(" + index + ")", sheet.ranAt(index), model.ranAt(index));
                break;
            case 8:
                due("changedAt(" + index + ")", sheet.changedAt(index), model.changedAt(index));
                break;
            case 9:
                due("cause(" + cell + ")", sheet.cause(cell), model.cause(cell));
                due("chainAt" + both, sheet.chainAt(cell, index), model.chainAt(cell, index));
                break;
            case 10:
                whatIf(cell);
                break;
            default:
                int number = dice.roll(20) == 0 ? dice.roll(16) - 1 : dice.roll(13);
                due("count(" + number + ")", sheet.count(number), model.count(number));
                break;
        }
    }

    private void whatIf(int cell) {
        int number = dice.oneIn(8) ? dice.roll(2000010) - 1000005 : dice.roll(9) - 3;
        int of = dice.oneIn(5) ? cell : cell();
        due("whatIf(" + cell + ", " + number + ", " + of + ")", sheet.whatIf(cell, number, of),
                model.whatIf(cell, number, of));
    }
}
