/** The faults of many texts, compared with those that the grammar, followed in all ways, tells. */
public final class FaultModelTest {
    private static final String SIGNS = "abchi019+-*,:()ifpickdvmoatnxsue .A";

    private static CutoffSheet sheet = new CutoffSheet();
    private static int calls;

    private FaultModelTest() {
    }

    public static void main(String[] args) {
        Dice dice = new Dice(77);
        for (int round = 0; round < 6000; round++) {
            Formulas formulas = new Formulas(dice, dice.roll(6), dice.roll(7));
            String text = formulas.formula();
            compare(text);
            compare(text.substring(0, dice.roll(text.length() + 1)));
            compare(changed(text, dice));
            compare(changed(changed(text, dice), dice));
        }
        for (String start : new String[] {"", "1", "a", "a1", "sum(", "count(", "max(c4:", "min(b2:d"}) {
            allEnds(start);
        }
        Check.finish("FaultModelTest");
    }

    /** With a sign put in, taken out or replaced. */
    private static String changed(String text, Dice dice) {
        int at = dice.roll(text.length() + 1);
        char sign = SIGNS.charAt(dice.roll(SIGNS.length()));
        int kind = dice.roll(3);
        String behind = kind == 0 || at == text.length() ? text.substring(at) : text.substring(at + 1);
        String changed = text.substring(0, at) + (kind == 2 ? "" : sign) + behind;
        return changed.substring(0, Math.min(30, changed.length()));
    }

    /** With each one of all characters behind it, and each pair of some. */
    private static void allEnds(String start) {
        for (int first = 32; first <= 126; first++) {
            compare(start + (char) first);
        }
        for (char first : SIGNS.toCharArray()) {
            for (char second : SIGNS.toCharArray()) {
                compare(start + first + second);
            }
        }
    }

    private static void compare(String text) {
        calls += text.length() + 2;
        if (calls > 512) {
            sheet = new CutoffSheet();
            calls = text.length() + 2;
        }
        sheet.clearText();
        for (char letter : text.toCharArray()) {
            sheet.type(letter);
        }
        int want = Grammar.fault(text);
        Check.due("fault of " + text, sheet.fault(), want == -1 ? Check.MISSING : want);
    }
}
