/**
 * A sheet of 72 cells with formulas that is brought up to date by changes. What it does is told by
 * ../shared/DOC.md; the promises named in the comments are the numbered ones there.
 */
public final class CutoffSheet {
    public static final int INVALID_ARGUMENT = -2000000001;
    public static final int NOT_POSSIBLE = -2000000002;
    public static final int LIMIT_REACHED = -2000000003;
    public static final int NOT_FOUND = -2000000004;

    /** No cell, no text, no fault, no function: every other number of these is 0 or more. */
    private static final int NONE = -1;

    private static final int COLUMNS = 8;
    private static final int ROWS = 9;
    private static final int CELLS = 72;
    private static final int LONGEST_TEXT = 30;
    private static final int LONGEST_NUMBER = 6;
    private static final int FIRST_LETTER = 32;
    private static final int LAST_LETTER = 126;
    private static final int MOST_WAITING = 8;
    private static final int MOST_ROUNDS = 40;
    private static final int MOST_STATES = 4;
    private static final int LAST_FACT = 8;
    private static final long GREATEST_VALUE = 1000000000L;
    private static final int GREATEST_NUMBER = 999999;

    /** No text of 30 letters leads deeper, since each level takes a letter. */
    private static final int DEEPEST = 40;

    /** Each cell is opened once and left once, so that there are never as many steps. */
    private static final int MOST_STEPS = 1000;

    private static final int NO_ERROR = 0;
    private static final int TOO_GREAT = 1;
    private static final int NO_DIVISOR = 2;
    private static final int NO_SUCH = 3;
    private static final int CYCLE = 4;

    private static final int KNOWN = 0;
    private static final int UNKNOWN = 1;
    private static final int OPEN = 2;

    private static final int IF = 0;
    private static final int PICK = 1;
    private static final int DIV = 2;
    private static final int MOD = 3;
    private static final int AT = 4;
    private static final int MIN = 5;
    private static final int MAX = 6;
    private static final int SUM = 7;
    private static final int COUNT = 8;
    private static final int FUNCTIONS = 9;
    private static final int[] LEAST_PARTS = {3, 2, 2, 2, 2, 1, 1, 1, 1};
    private static final int[] MOST_PARTS = {3, 5, 2, 2, 2, 4, 4, 4, 4};

    /** What a min, max, sum or count is before it has taken anything; no value is as small. */
    private static final long NOTHING = -2000000000L;

    private final Text typed = new Text();
    private final Text draft = new Text();
    private final State current = new State();
    private final State guess = new State();
    private final History history = new History();
    private final Checker checker = new Checker();
    private final Calculator calculator = new Calculator(guess);
    private final int[] chain = new int[CELLS];

    public CutoffSheet() {
    }

    // ---- texts

    public int type(int character) {
        if (character < FIRST_LETTER || character > LAST_LETTER) {
            return INVALID_ARGUMENT;
        }
        if (typed.length >= LONGEST_TEXT) {
            return LIMIT_REACHED;
        }
        typed.add(character);
        return typed.length;
    }

    public int clearText() {
        int length = typed.length;
        typed.length = 0;
        return length;
    }

    public int fault() {
        int position = checker.firstFault(typed);
        return position == NONE ? NOT_FOUND : position;
    }

    // ---- edits

    public int put(int cell) {
        if (!isCell(cell)) {
            return INVALID_ARGUMENT;
        }
        if (checker.firstFault(typed) != NONE) {
            return NOT_POSSIBLE;
        }
        return letWait(cell, typed);
    }

    public int copy(int from, int to) {
        if (!isCell(from) || !isCell(to)) {
            return INVALID_ARGUMENT;
        }
        int columns = to % COLUMNS - from % COLUMNS;
        int rows = to / COLUMNS - from / COLUMNS;
        if (!draftShifted(from, columns, rows)) {
            return NOT_POSSIBLE;
        }
        return letWait(to, draft);
    }

    public int drop() {
        int waiting = current.waitingEdits();
        if (waiting == 0) {
            return NOT_POSSIBLE;
        }
        history.keep(current);
        current.waiting.clearAll(NONE);
        return waiting;
    }

    public int waitingAt(int index) {
        if (index < 0) {
            return INVALID_ARGUMENT;
        }
        int left = index;
        for (int cell = 0; cell < CELLS; cell++) {
            if (current.waits(cell)) {
                if (left == 0) {
                    return cell;
                }
                left--;
            }
        }
        return NOT_FOUND;
    }

    public int update() {
        if (current.waitingEdits() == 0) {
            return NOT_POSSIBLE;
        }
        State before = history.keep(current);
        for (int cell = 0; cell < CELLS; cell++) {
            if (current.waits(cell)) {
                current.formulas.takeSame(cell, current.waiting);
            }
        }
        current.waiting.clearAll(NONE);
        return bringUpToDate(before, true);
    }

    public int rounds(int rounds) {
        if (rounds < 0 || rounds > MOST_ROUNDS) {
            return INVALID_ARGUMENT;
        }
        State before = history.keep(current);
        current.roundsSet = rounds;
        bringUpToDate(before, false);
        return before.roundsSet;
    }

    // ---- cells

    public int value(int cell) {
        if (!isCell(cell)) {
            return INVALID_ARGUMENT;
        }
        return current.errors[cell] == NO_ERROR ? current.values[cell] : NOT_FOUND;
    }

    public int cellOf(int cell, int what) {
        if (!isCell(cell) || what < 0 || what > LAST_FACT) {
            return INVALID_ARGUMENT;
        }
        return current.fact(cell, what);
    }

    public int letterAt(int cell, int index) {
        if (!isCell(cell) || index < 0) {
            return INVALID_ARGUMENT;
        }
        if (index >= current.formulas.lengths[cell]) {
            return NOT_FOUND;
        }
        return current.formulas.letter(cell, index);
    }

    public int readAt(int cell, int index) {
        if (!isCell(cell) || index < 0) {
            return INVALID_ARGUMENT;
        }
        return index < current.readCounts[cell] ? current.readOf(cell, index) : NOT_FOUND;
    }

    public int readerAt(int cell, int index) {
        if (!isCell(cell) || index < 0) {
            return INVALID_ARGUMENT;
        }
        int left = index;
        for (int reader = 0; reader < CELLS; reader++) {
            if (current.hasRead(reader, cell)) {
                if (left == 0) {
                    return reader;
                }
                left--;
            }
        }
        return NOT_FOUND;
    }

    // ---- what was run

    public int ranAt(int index) {
        if (index < 0) {
            return INVALID_ARGUMENT;
        }
        int left = index;
        for (int rank = 0; rank <= CELLS; rank++) {
            for (int cell = 0; cell < CELLS; cell++) {
                if (current.causes[cell] != NONE && current.rankOf(cell) == rank) {
                    if (left == 0) {
                        return cell;
                    }
                    left--;
                }
            }
        }
        return NOT_FOUND;
    }

    public int changedAt(int index) {
        if (index < 0) {
            return INVALID_ARGUMENT;
        }
        int left = index;
        for (int cell = 0; cell < CELLS; cell++) {
            if (current.changes[cell] == 1) {
                if (left == 0) {
                    return cell;
                }
                left--;
            }
        }
        return NOT_FOUND;
    }

    public int cause(int cell) {
        if (!isCell(cell)) {
            return INVALID_ARGUMENT;
        }
        return current.causes[cell] == NONE ? NOT_FOUND : current.causes[cell];
    }

    public int chainAt(int cell, int index) {
        if (!isCell(cell) || index < 0) {
            return INVALID_ARGUMENT;
        }
        int length = followCauses(cell);
        return index < length ? chain[index] : NOT_FOUND;
    }

    public int whatIf(int cell, int number, int of) {
        if (!isCell(cell) || !isCell(of) || number < -GREATEST_NUMBER || number > GREATEST_NUMBER) {
            return INVALID_ARGUMENT;
        }
        draftNumber(number);
        guess.formulas.takeAll(current.formulas);
        guess.formulas.take(cell, draft);
        guess.roundsSet = current.roundsSet;
        calculator.workOut(guess);
        calculator.goOver(guess);
        return guess.errors[of] == NO_ERROR ? guess.values[of] : NOT_FOUND;
    }

    public int count(int what) {
        switch (what) {
            case 0:
                return CELLS - sumOfFacts(3);
            case 1:
                return current.waitingEdits();
            case 2:
                return sumOfFacts(5);
            case 3:
                return sumOfFacts(6);
            case 4:
                return current.roundsGone;
            case 5:
                return current.settled ? 1 : 0;
            case 6:
                return sumOfFacts(7);
            case 7:
                return current.cellsWithErrors();
            case 8:
                return current.greatestHeight();
            case 9:
                return current.roundsSet;
            case 10:
                return history.size;
            case 11:
                return typed.length;
            case 12:
                return sumOfFacts(4);
            default:
                return INVALID_ARGUMENT;
        }
    }

    public int undo() {
        if (history.size == 0) {
            return NOT_POSSIBLE;
        }
        history.giveBack(current);
        return history.size;
    }

    // ---- parts of the calls

    private int letWait(int cell, Text text) {
        if (!current.waits(cell) && current.waitingEdits() >= MOST_WAITING) {
            return LIMIT_REACHED;
        }
        history.keep(current);
        current.waiting.take(cell, text);
        return current.waitingEdits();
    }

    /** Makes the formula of a cell the draft, its cells shifted; false if one leaves the sheet. */
    private boolean draftShifted(int from, int columns, int rows) {
        draft.length = 0;
        for (int index = 0; index < current.formulas.lengths[from]; index++) {
            int letter = shiftedLetter(from, index, columns, rows);
            if (letter == NONE) {
                return false;
            }
            draft.add(letter);
        }
        return true;
    }

    /** Only in a cell does a letter stand next to a digit. */
    private int shiftedLetter(int from, int index, int columns, int rows) {
        int letter = current.formulas.letter(from, index);
        if (isColumnLetter(letter) && isRowDigit(current.formulas.letter(from, index + 1))) {
            return isColumnLetter(letter + columns) ? letter + columns : NONE;
        }
        if (isRowDigit(letter) && isColumnLetter(current.formulas.letter(from, index - 1))) {
            return isRowDigit(letter + rows) ? letter + rows : NONE;
        }
        return letter;
    }

    /** Makes a number the draft, as a formula; zeros ahead of it do no harm. */
    private void draftNumber(int number) {
        draft.length = 0;
        if (number < 0) {
            draft.add('-');
        }
        int size = Math.abs(number);
        for (int unit = 100000; unit > 0; unit /= 10) {
            draft.add('0' + size / unit % 10);
        }
    }

    /** Works out the sheet anew and tells, by what it was before, what was run; how many cells. */
    private int bringUpToDate(State before, boolean withEdits) {
        calculator.workOut(current);
        calculator.goOver(current);
        current.markChanges(before);
        int runs = 0;
        for (int cell = 0; cell < CELLS; cell++) {
            boolean edited = withEdits && before.waits(cell);
            current.causes[cell] = current.causeOf(cell, before, edited);
            if (current.causes[cell] != NONE) {
                current.runCounts[cell]++;
                runs++;
            }
        }
        return runs;
    }

    /** Makes the row of what a cell was run by, and so on, the chain; its length. */
    private int followCauses(int cell) {
        int next = current.causes[cell] == NONE ? NONE : cell;
        int length = 0;
        for (int step = 0; step < CELLS && next != NONE; step++) {
            chain[length] = next;
            length++;
            next = current.causes[next];
            for (int index = 0; index < length; index++) {
                if (chain[index] == next) {
                    return length;
                }
            }
        }
        return length;
    }

    private int sumOfFacts(int what) {
        int sum = 0;
        for (int cell = 0; cell < CELLS; cell++) {
            sum += current.fact(cell, what);
        }
        return sum;
    }

    private static boolean isCell(int number) {
        return number >= 0 && number < CELLS;
    }

    private static boolean isColumnLetter(int letter) {
        return letter >= 'a' && letter <= 'h';
    }

    private static boolean isRowDigit(int letter) {
        return letter >= '1' && letter <= '9';
    }

    private static boolean isDigit(int letter) {
        return letter >= '0' && letter <= '9';
    }

    private static String nameOf(int function) {
        switch (function) {
            case IF:
                return "if(";
            case PICK:
                return "pick(";
            case DIV:
                return "div(";
            case MOD:
                return "mod(";
            case AT:
                return "at(";
            case MIN:
                return "min(";
            case MAX:
                return "max(";
            case SUM:
                return "sum(";
            default:
                return "count(";
        }
    }

    /** A text of at most as many letters as a formula may have. */
    private static final class Text {
        final int[] letters = new int[LONGEST_TEXT];
        int length;

        void add(int letter) {
            if (length >= 0 && length < LONGEST_TEXT) {
                letters[length] = letter;
                length++;
            }
        }
    }

    /** A text for each cell, or a length of NONE where there is none. */
    private static final class Texts {
        final int[] letters = new int[CELLS * LONGEST_TEXT];
        final int[] lengths = new int[CELLS];

        int letter(int cell, int index) {
            return index >= 0 && index < lengths[cell] ? letters[cell * LONGEST_TEXT + index] : 0;
        }

        void take(int cell, Text text) {
            System.arraycopy(text.letters, 0, letters, cell * LONGEST_TEXT, LONGEST_TEXT);
            lengths[cell] = text.length;
        }

        void takeSame(int cell, Texts other) {
            int start = cell * LONGEST_TEXT;
            System.arraycopy(other.letters, start, letters, start, LONGEST_TEXT);
            lengths[cell] = other.lengths[cell];
        }

        void takeAll(Texts other) {
            System.arraycopy(other.letters, 0, letters, 0, CELLS * LONGEST_TEXT);
            System.arraycopy(other.lengths, 0, lengths, 0, CELLS);
        }

        void clearAll(int length) {
            for (int cell = 0; cell < CELLS; cell++) {
                lengths[cell] = length;
            }
        }
    }

    /** All of a sheet that undo brings back. */
    private static final class State {
        final Texts formulas = new Texts();
        final Texts waiting = new Texts();
        final int[] values = new int[CELLS];
        final int[] errors = new int[CELLS];
        final int[] heights = new int[CELLS];
        final int[] cycles = new int[CELLS];
        final int[] readCounts = new int[CELLS];
        final int[] reads = new int[CELLS * CELLS];
        final int[] runCounts = new int[CELLS];
        final int[] changes = new int[CELLS];
        /** What each cell was run by, NONE if it was not run. */
        final int[] causes = new int[CELLS];
        int roundsSet;
        int roundsGone;
        boolean settled = true;

        State() {
            for (int cell = 0; cell < CELLS; cell++) {
                waiting.lengths[cell] = NONE;
                causes[cell] = NONE;
            }
        }

        void takeAll(State other) {
            formulas.takeAll(other.formulas);
            waiting.takeAll(other.waiting);
            System.arraycopy(other.values, 0, values, 0, CELLS);
            System.arraycopy(other.errors, 0, errors, 0, CELLS);
            System.arraycopy(other.heights, 0, heights, 0, CELLS);
            System.arraycopy(other.cycles, 0, cycles, 0, CELLS);
            System.arraycopy(other.readCounts, 0, readCounts, 0, CELLS);
            System.arraycopy(other.reads, 0, reads, 0, CELLS * CELLS);
            System.arraycopy(other.runCounts, 0, runCounts, 0, CELLS);
            System.arraycopy(other.changes, 0, changes, 0, CELLS);
            System.arraycopy(other.causes, 0, causes, 0, CELLS);
            roundsSet = other.roundsSet;
            roundsGone = other.roundsGone;
            settled = other.settled;
        }

        boolean isEmpty(int cell) {
            return formulas.lengths[cell] == 0;
        }

        boolean waits(int cell) {
            return waiting.lengths[cell] != NONE;
        }

        int waitingEdits() {
            int edits = 0;
            for (int cell = 0; cell < CELLS; cell++) {
                if (waits(cell)) {
                    edits++;
                }
            }
            return edits;
        }

        int readOf(int cell, int index) {
            return reads[cell * CELLS + index];
        }

        boolean hasRead(int reader, int cell) {
            for (int index = 0; index < readCounts[reader]; index++) {
                if (readOf(reader, index) == cell) {
                    return true;
                }
            }
            return false;
        }

        /** The number that cellOf tells (promise 12). */
        int fact(int cell, int what) {
            switch (what) {
                case 0:
                    return errors[cell];
                case 1:
                    return cycles[cell] == 1 ? NOT_FOUND : heights[cell];
                case 2:
                    return readCounts[cell];
                case 3:
                    return isEmpty(cell) ? 1 : 0;
                case 4:
                    return runCounts[cell];
                case 5:
                    return causes[cell] == NONE ? 0 : 1;
                case 6:
                    return changes[cell];
                case 7:
                    return cycles[cell];
                default:
                    return formulas.lengths[cell];
            }
        }

        int cellsWithErrors() {
            int cells = 0;
            for (int cell = 0; cell < CELLS; cell++) {
                if (errors[cell] != NO_ERROR) {
                    cells++;
                }
            }
            return cells;
        }

        int greatestHeight() {
            int greatest = 0;
            for (int cell = 0; cell < CELLS; cell++) {
                if (cycles[cell] == 0) {
                    greatest = Math.max(greatest, heights[cell]);
                }
            }
            return greatest;
        }

        /** The height, or one more than any height can be for a cell in a cycle. */
        int rankOf(int cell) {
            return cycles[cell] == 1 ? CELLS : heights[cell];
        }

        void markChanges(State before) {
            for (int cell = 0; cell < CELLS; cell++) {
                boolean same = values[cell] == before.values[cell]
                        && errors[cell] == before.errors[cell]
                        && isEmpty(cell) == before.isEmpty(cell);
                changes[cell] = same ? 0 : 1;
            }
        }

        /** What a cell is run by, NONE if it need not be run; what changed is marked already. */
        int causeOf(int cell, State before, boolean edited) {
            if (edited) {
                return cell;
            }
            for (int index = 0; index < before.readCounts[cell]; index++) {
                int read = before.readOf(cell, index);
                if (changes[read] == 1) {
                    return read;
                }
            }
            return cycles[cell] == 1 || before.cycles[cell] == 1 ? cell : NONE;
        }
    }

    /** The latest states, the oldest one first. */
    private static final class History {
        private final State[] states = new State[MOST_STATES];
        int size;

        History() {
            for (int index = 0; index < MOST_STATES; index++) {
                states[index] = new State();
            }
        }

        /** Records a state and hands out the record. */
        State keep(State state) {
            if (size >= MOST_STATES) {
                dropOldest();
            }
            State kept = states[size];
            kept.takeAll(state);
            size++;
            return kept;
        }

        void giveBack(State state) {
            if (size > 0) {
                size--;
                state.takeAll(states[size]);
            }
        }

        /** The object of the oldest state goes behind the others, to be used again. */
        private void dropOldest() {
            State oldest = states[0];
            for (int index = 1; index < MOST_STATES; index++) {
                states[index - 1] = states[index];
            }
            states[MOST_STATES - 1] = oldest;
            size = MOST_STATES - 1;
        }
    }

    /** A place in a text. */
    private static final class Cursor {
        private int[] letters = new int[0];
        private int start;
        private int length;
        int position;

        /** The text must lie in the letters. */
        void enter(int[] letters, int start, int length) {
            this.letters = letters;
            this.start = start;
            this.length = length;
            position = 0;
        }

        /** The letter so far ahead, 0 behind the end. */
        int look(int ahead) {
            int index = position + ahead;
            return index >= 0 && index < length ? letters[start + index] : 0;
        }

        boolean isAtEnd() {
            return position >= length;
        }

        /** Goes past a sign if it stands here. */
        boolean pass(int sign) {
            boolean here = look(0) == sign;
            if (here) {
                position++;
            }
            return here;
        }

        boolean isAtCell() {
            return isColumnLetter(look(0)) && isRowDigit(look(1));
        }

        /** How many letters of the name stand here. */
        int matching(String name) {
            for (int index = 0; index < name.length(); index++) {
                if (look(index) != name.charAt(index)) {
                    return index;
                }
            }
            return name.length();
        }
    }

    /**
     * Looks for the fault of a text. Each of its steps goes on as far as a formula can, and answers
     * whether all that it looks for is there; if not, the cursor stands at the fault.
     */
    private static final class Checker {
        private final Cursor cursor = new Cursor();

        int firstFault(Text text) {
            if (text.length == 0) {
                return NONE;
            }
            cursor.enter(text.letters, 0, text.length);
            return formula(0) && cursor.isAtEnd() ? NONE : cursor.position;
        }

        private boolean formula(int depth) {
            boolean more = true;
            for (int index = 0; index < LONGEST_TEXT && more; index++) {
                if (!product(depth)) {
                    return false;
                }
                more = cursor.pass('+') || cursor.pass('-');
            }
            return true;
        }

        private boolean product(int depth) {
            boolean more = true;
            for (int index = 0; index < LONGEST_TEXT && more; index++) {
                if (!factor(depth)) {
                    return false;
                }
                more = cursor.pass('*');
            }
            return true;
        }

        private boolean factor(int depth) {
            if (depth > DEEPEST) {
                return false;
            }
            if (cursor.pass('-')) {
                return factor(depth + 1);
            }
            if (cursor.pass('(')) {
                return formula(depth + 1) && cursor.pass(')');
            }
            if (isDigit(cursor.look(0))) {
                passNumber();
                return true;
            }
            if (cursor.isAtCell()) {
                cursor.position += 2;
                return true;
            }
            return call(depth + 1);
        }

        private void passNumber() {
            for (int digits = 0; digits < LONGEST_NUMBER && isDigit(cursor.look(0)); digits++) {
                cursor.position++;
            }
        }

        private boolean call(int depth) {
            int reached = isColumnLetter(cursor.look(0)) ? 1 : 0;
            for (int function = 0; function < FUNCTIONS; function++) {
                int matching = cursor.matching(nameOf(function));
                if (matching == nameOf(function).length()) {
                    cursor.position += matching;
                    return parts(function, depth);
                }
                reached = Math.max(reached, matching);
            }
            cursor.position += reached;
            return false;
        }

        private boolean parts(int function, int depth) {
            for (int part = 1; part <= MOST_PARTS[function]; part++) {
                boolean whole = isAtArea(function) ? area() : formula(depth);
                if (!whole) {
                    return false;
                }
                if (part >= LEAST_PARTS[function] && cursor.pass(')')) {
                    return true;
                }
                if (part == MOST_PARTS[function] || !cursor.pass(',')) {
                    return false;
                }
            }
            return false;
        }

        /** A cell alone may still become a longer formula; only a count has nothing but areas. */
        private boolean isAtArea(int function) {
            boolean isRange = cursor.isAtCell() && cursor.look(2) == ':';
            return function == COUNT || function >= MIN && isRange;
        }

        private boolean area() {
            int column = cursor.look(0);
            int row = cursor.look(1);
            if (!passCell('a', '1')) {
                return false;
            }
            return !cursor.pass(':') || passCell(column, row);
        }

        /** Goes past a cell that is not left of the column nor above the row. */
        private boolean passCell(int column, int row) {
            if (cursor.look(0) < column || !isColumnLetter(cursor.look(0))) {
                return false;
            }
            cursor.position++;
            if (cursor.look(0) < row || !isRowDigit(cursor.look(0))) {
                return false;
            }
            cursor.position++;
            return true;
        }
    }

    /** Works out single cells. */
    private static final class Evaluator {
        private final Cursor cursor = new Cursor();
        /** How much is known of each cell; only a cell that is KNOWN can be read. */
        final int[] marks = new int[CELLS];
        private final int[] readBy = new int[CELLS];
        private int evaluation;
        private State state;
        private int target;
        /** The first error that came up; nothing is read behind it. */
        int error;
        /** The cell that was read and is not known, NONE if there is none. */
        int blocker;

        Evaluator(State first) {
            state = first;
        }

        /** Works out a cell that is not empty: its value (0 with an error) and what it reads. */
        int evaluate(State sheet, int cell) {
            state = sheet;
            target = cell;
            error = NO_ERROR;
            blocker = NONE;
            evaluation++;
            sheet.readCounts[cell] = 0;
            cursor.enter(sheet.formulas.letters, cell * LONGEST_TEXT, sheet.formulas.lengths[cell]);
            long result = formula(0);
            return error == NO_ERROR ? (int) result : 0;
        }

        private long formula(int depth) {
            long total = product(depth);
            for (int index = 0; index < LONGEST_TEXT && error == NO_ERROR; index++) {
                if (cursor.pass('+')) {
                    total = bounded(total + product(depth));
                } else if (cursor.pass('-')) {
                    total = bounded(total - product(depth));
                } else {
                    return total;
                }
            }
            return total;
        }

        private long product(int depth) {
            long total = factor(depth);
            for (int index = 0; index < LONGEST_TEXT && error == NO_ERROR; index++) {
                if (!cursor.pass('*')) {
                    return total;
                }
                total = bounded(total * factor(depth));
            }
            return total;
        }

        private long bounded(long number) {
            if (error != NO_ERROR) {
                return 0;
            }
            if (number < -GREATEST_VALUE || number > GREATEST_VALUE) {
                error = TOO_GREAT;
                return 0;
            }
            return number;
        }

        private long fail(int reason) {
            error = reason;
            return 0;
        }

        private long factor(int depth) {
            if (depth > DEEPEST) {
                return fail(TOO_GREAT);
            }
            if (cursor.pass('-')) {
                return -factor(depth + 1);
            }
            if (cursor.pass('(')) {
                long inner = formula(depth + 1);
                cursor.position++;
                return inner;
            }
            if (isDigit(cursor.look(0))) {
                return passNumber();
            }
            if (cursor.isAtCell()) {
                return readCell(passCell());
            }
            return call(depth + 1);
        }

        private long passNumber() {
            long number = 0;
            for (int digits = 0; digits < LONGEST_NUMBER && isDigit(cursor.look(0)); digits++) {
                number = number * 10 + cursor.look(0) - '0';
                cursor.position++;
            }
            return number;
        }

        private int passCell() {
            int cell = (cursor.look(1) - '1') * COLUMNS + cursor.look(0) - 'a';
            cursor.position += 2;
            return cell;
        }

        private long readCell(int cell) {
            if (!isCell(cell)) {
                return fail(NO_SUCH);
            }
            if (readBy[cell] != evaluation && state.readCounts[target] < CELLS) {
                readBy[cell] = evaluation;
                state.reads[target * CELLS + state.readCounts[target]] = cell;
                state.readCounts[target]++;
            }
            if (marks[cell] != KNOWN) {
                blocker = cell;
                return fail(CYCLE);
            }
            error = state.errors[cell];
            return state.values[cell];
        }

        private long call(int depth) {
            for (int function = 0; function < FUNCTIONS; function++) {
                String name = nameOf(function);
                if (cursor.matching(name) == name.length()) {
                    cursor.position += name.length();
                    switch (function) {
                        case IF:
                        case PICK:
                            return choose(function, depth);
                        case DIV:
                        case MOD:
                        case AT:
                            return combine(function, depth);
                        default:
                            return gather(function, depth);
                    }
                }
            }
            return fail(NO_SUCH);
        }

        /** An if is a pick of the first of two formulas, or of the second one with a 0. */
        private long choose(int function, int depth) {
            long wanted = formula(depth);
            if (error != NO_ERROR) {
                return 0;
            }
            if (function == IF) {
                wanted = wanted == 0 ? 2 : 1;
            }
            if (wanted < 1 || wanted >= MOST_PARTS[function]) {
                return fail(NO_SUCH);
            }
            for (int part = 1; part < wanted && cursor.pass(','); part++) {
                skipPart();
            }
            if (!cursor.pass(',')) {
                return fail(NO_SUCH);
            }
            long result = formula(depth);
            for (int part = 0; part < MOST_PARTS[function] && cursor.pass(','); part++) {
                skipPart();
            }
            cursor.position++;
            return result;
        }

        /** Goes to the comma or bracket behind a part without working it out. */
        private void skipPart() {
            int open = 0;
            for (int index = 0; index < LONGEST_TEXT; index++) {
                int sign = cursor.look(0);
                if (open == 0 && (sign == ',' || sign == ')')) {
                    return;
                }
                if (sign == '(') {
                    open++;
                } else if (sign == ')') {
                    open--;
                }
                cursor.position++;
            }
        }

        private long combine(int function, int depth) {
            long first = formula(depth);
            cursor.position++;
            long second = error == NO_ERROR ? formula(depth) : 0;
            cursor.position++;
            if (error != NO_ERROR) {
                return 0;
            }
            if (function == AT) {
                boolean inside = first >= 0 && first < COLUMNS && second >= 0 && second < ROWS;
                return inside ? readCell((int) (second * COLUMNS + first)) : fail(NO_SUCH);
            }
            if (second == 0) {
                return fail(NO_DIVISOR);
            }
            return function == DIV ? Math.floorDiv(first, second) : Math.floorMod(first, second);
        }

        private long gather(int function, int depth) {
            long soFar = NOTHING;
            boolean more = true;
            for (int part = 0; part < MOST_PARTS[function] && more; part++) {
                if (isAtArea()) {
                    soFar = gatherArea(function, soFar);
                } else {
                    soFar = joined(function, soFar, formula(depth));
                }
                more = error == NO_ERROR && cursor.look(0) == ',';
                cursor.position++;
            }
            return soFar == NOTHING ? 0 : soFar;
        }

        private boolean isAtArea() {
            int behind = cursor.look(2);
            return cursor.isAtCell() && (behind == ':' || behind == ',' || behind == ')');
        }

        private long gatherArea(int function, long soFar) {
            int first = passCell();
            int last = cursor.pass(':') ? passCell() : first;
            long result = soFar;
            for (int row = first / COLUMNS; row <= last / COLUMNS; row++) {
                for (int column = first % COLUMNS; column <= last % COLUMNS; column++) {
                    int cell = row * COLUMNS + column;
                    long value = readCell(cell);
                    if (error == NO_ERROR && !state.isEmpty(cell)) {
                        result = joined(function, result, value);
                    }
                    if (error != NO_ERROR) {
                        return 0;
                    }
                }
            }
            return result;
        }

        private long joined(int function, long soFar, long value) {
            if (error != NO_ERROR) {
                return 0;
            }
            if (function == COUNT) {
                return soFar == NOTHING ? 1 : soFar + 1;
            }
            if (soFar == NOTHING) {
                return value;
            }
            switch (function) {
                case MIN:
                    return Math.min(soFar, value);
                case MAX:
                    return Math.max(soFar, value);
                default:
                    return bounded(soFar + value);
            }
        }
    }

    /** Works out whole sheets. */
    private static final class Calculator {
        private final Evaluator evaluator;
        /** The cells that are being worked out, each of which needs the next one. */
        private final int[] open = new int[CELLS];

        Calculator(State first) {
            evaluator = new Evaluator(first);
        }

        /**
         * Works out all cells but those in cycles, which are marked. A cell that reads an unknown
         * one is worked out again behind that one, so that no cell stands open within another one.
         */
        void workOut(State state) {
            forget(state);
            for (int first = 0; first < CELLS; first++) {
                int opened = evaluator.marks[first] == UNKNOWN ? opened(0, first) : 0;
                for (int step = 0; step < MOST_STEPS && opened > 0; step++) {
                    int cell = open[opened - 1];
                    int value = evaluator.evaluate(state, cell);
                    if (evaluator.blocker == NONE) {
                        learn(state, cell, value);
                        opened--;
                    } else if (evaluator.marks[evaluator.blocker] == UNKNOWN) {
                        opened = opened(opened, evaluator.blocker);
                    } else {
                        markCycle(state, opened);
                        opened = 0;
                    }
                }
            }
        }

        /** Lets the cells in cycles be errors, or goes over them in rounds. */
        void goOver(State state) {
            boolean some = false;
            for (int cell = 0; cell < CELLS; cell++) {
                if (state.cycles[cell] == 1) {
                    some = true;
                    state.errors[cell] = state.roundsSet == 0 ? CYCLE : NO_ERROR;
                    evaluator.marks[cell] = KNOWN;
                }
            }
            state.roundsGone = 0;
            state.settled = !some;
            for (int round = 0; round < state.roundsSet && !state.settled; round++) {
                boolean same = true;
                for (int cell = 0; cell < CELLS; cell++) {
                    if (state.cycles[cell] == 1) {
                        int value = evaluator.evaluate(state, cell);
                        same = same && isStill(state, cell, value);
                        state.values[cell] = value;
                        state.errors[cell] = evaluator.error;
                    }
                }
                state.settled = same;
                state.roundsGone++;
            }
        }

        private boolean isStill(State state, int cell, int value) {
            return state.values[cell] == value && state.errors[cell] == evaluator.error;
        }

        private void forget(State state) {
            for (int cell = 0; cell < CELLS; cell++) {
                state.values[cell] = 0;
                state.errors[cell] = NO_ERROR;
                state.heights[cell] = 0;
                state.cycles[cell] = 0;
                state.readCounts[cell] = 0;
                evaluator.marks[cell] = state.isEmpty(cell) ? KNOWN : UNKNOWN;
            }
        }

        /** Opens a cell behind those that are open; how many are open then. */
        private int opened(int before, int cell) {
            if (before >= CELLS) {
                return before;
            }
            evaluator.marks[cell] = OPEN;
            open[before] = cell;
            return before + 1;
        }

        private void learn(State state, int cell, int value) {
            state.values[cell] = value;
            state.errors[cell] = evaluator.error;
            int height = 0;
            for (int index = 0; index < state.readCounts[cell]; index++) {
                height = Math.max(height, state.heights[state.readOf(cell, index)] + 1);
            }
            state.heights[cell] = height;
            evaluator.marks[cell] = KNOWN;
        }

        /**
         * Each open cell needs the next one, and the last one needs one of them or a cell in a
         * cycle. They stay marked as open, so that what reads them is in a cycle, too.
         */
        private void markCycle(State state, int opened) {
            for (int index = 0; index < opened; index++) {
                state.cycles[open[index]] = 1;
            }
        }
    }
}
