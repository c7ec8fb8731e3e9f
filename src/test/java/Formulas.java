/** Makes formulas that read cells near each other, so that they meet and go round in cycles. */
final class Formulas {
    private final Dice dice;
    private final int column;
    private final int row;

    /** The cells are mostly the nine that begin with the place. */
    Formulas(Dice dice, int column, int row) {
        this.dice = dice;
        this.column = column;
        this.row = row;
    }

    int cell() {
        if (dice.oneIn(25)) {
            return dice.roll(72);
        }
        return (row + dice.roll(3)) * 8 + column + dice.roll(3);
    }

    /** At most 30 characters. */
    String formula() {
        while (true) {
            String text = sum(dice.roll(4));
            if (text.length() <= 30) {
                return text;
            }
        }
    }

    private String sum(int depth) {
        String text = product(depth);
        while (dice.oneIn(4)) {
            text += (dice.oneIn(2) ? "+" : "-") + product(depth);
        }
        return text;
    }

    private String product(int depth) {
        String text = factor(depth);
        while (dice.oneIn(6)) {
            text += "*" + factor(depth);
        }
        return text;
    }

    private String factor(int depth) {
        int kind = dice.roll(depth == 0 ? 10 : 22);
        if (kind < 6) {
            return Sheet.name(cell());
        }
        if (kind < 10) {
            return number();
        }
        int inner = depth - 1;
        switch (kind) {
            case 10:
                return "-" + factor(inner);
            case 11:
                return "(" + sum(inner) + ")";
            case 12:
            case 13:
                return "if(" + sum(inner) + "," + sum(inner) + "," + sum(inner) + ")";
            case 14:
            case 15:
                return "pick(" + list(inner, 2 + dice.roll(4), 0) + ")";
            case 16:
                return "div(" + list(inner, 2, 0) + ")";
            case 17:
                return "mod(" + list(inner, 2, 0) + ")";
            case 18:
                return at(inner);
            case 19:
                return (dice.oneIn(2) ? "min(" : "max(") + list(inner, 1 + dice.roll(4), 1) + ")";
            case 20:
                return "sum(" + list(inner, 1 + dice.roll(4), 1) + ")";
            default:
                return "count(" + list(inner, 1 + dice.roll(4), 2) + ")";
        }
    }

    private String at(int depth) {
        if (dice.oneIn(3)) {
            return "at(" + list(depth, 2, 0) + ")";
        }
        return "at(" + (column + dice.roll(3)) + "," + (row + dice.roll(3)) + ")";
    }

    /** Kind 0: formulas, 1: parts, 2: areas. */
    private String list(int depth, int parts, int kind) {
        StringBuilder text = new StringBuilder();
        for (int part = 0; part < parts; part++) {
            text.append(part == 0 ? "" : ",");
            text.append(kind == 2 || kind == 1 && dice.oneIn(2) ? area() : sum(depth));
        }
        return text.toString();
    }

    private String area() {
        int first = cell();
        if (dice.oneIn(2)) {
            return Sheet.name(first);
        }
        int right = Math.min(7, first % 8 + dice.roll(dice.oneIn(10) ? 8 : 2));
        int down = Math.min(8, first / 8 + dice.roll(dice.oneIn(10) ? 9 : 2));
        return Sheet.name(first) + ":" + Sheet.name(down * 8 + right);
    }

    private String number() {
        int kind = dice.roll(12);
        if (kind == 0) {
            return "999999";
        }
        return kind == 1 ? Integer.toString(dice.roll(100000)) : Integer.toString(dice.roll(5));
    }
}
