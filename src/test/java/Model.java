import java.util.ArrayDeque;
import java.util.ArrayList;
import java.util.Arrays;
import java.util.Collection;
import java.util.Deque;
import java.util.LinkedHashSet;
import java.util.List;
import java.util.TreeMap;
import java.util.regex.Matcher;
import java.util.regex.Pattern;

/**
 * The document once more, written as plainly as may be and with nothing of the class in it: formulas
 * are trees, what is not yet known is gone over again and again until nothing new becomes known, and
 * states are whole copies.
 */
final class Model {
    static final int INVALID = -2000000001;
    static final int IMPOSSIBLE = -2000000002;
    static final int LIMIT = -2000000003;
    static final int MISSING = -2000000004;

    /** What a cell is: a value or an error, and what it reads. */
    record Result(long value, int error, List<Integer> reads) {
        boolean sameAs(Result other) {
            return value == other.value && error == other.error;
        }
    }

    static final Result EMPTY = new Result(0, 0, List.of());

    static final class Failed extends RuntimeException {
        private static final long serialVersionUID = 1;
        final int error;

        Failed(int error) {
            super(null, null, false, false);
            this.error = error;
        }
    }

    static final class NotKnown extends RuntimeException {
        private static final long serialVersionUID = 1;

        NotKnown() {
            super(null, null, false, false);
        }
    }

    interface Node {
        long work(Reading reading);
    }

    /** One working out of one cell. */
    static final class Reading {
        final String[] formulas;
        final Result[] results;
        final LinkedHashSet<Integer> read = new LinkedHashSet<>();

        Reading(String[] formulas, Result[] results) {
            this.formulas = formulas;
            this.results = results;
        }

        long read(int cell) {
            read.add(cell);
            Result result = results[cell];
            if (result == null) {
                throw new NotKnown();
            }
            if (result.error != 0) {
                throw new Failed(result.error);
            }
            return result.value;
        }
    }

    /** All that undo brings back. */
    static final class State {
        String[] formulas = new String[72];
        TreeMap<Integer, String> waiting = new TreeMap<>();
        Result[] results = new Result[72];
        boolean[] cycle = new boolean[72];
        int[] runs = new int[72];
        int[] cause = new int[72];
        boolean[] changed = new boolean[72];
        int rounds;
        int gone;
        boolean settled = true;

        State() {
            Arrays.fill(formulas, "");
            Arrays.fill(results, EMPTY);
            Arrays.fill(cause, -1);
        }

        State copy() {
            State copy = new State();
            copy.formulas = formulas.clone();
            copy.waiting = new TreeMap<>(waiting);
            copy.results = results.clone();
            copy.cycle = cycle.clone();
            copy.runs = runs.clone();
            copy.cause = cause.clone();
            copy.changed = changed.clone();
            copy.rounds = rounds;
            copy.gone = gone;
            copy.settled = settled;
            return copy;
        }

        void workOut() {
            Arrays.fill(results, null);
            boolean more = true;
            while (more) {
                more = false;
                for (int cell = 0; cell < 72; cell++) {
                    if (results[cell] == null) {
                        results[cell] = result(cell);
                        more |= results[cell] != null;
                    }
                }
            }
            for (int cell = 0; cell < 72; cell++) {
                cycle[cell] = results[cell] == null;
            }
            gone = 0;
            settled = true;
            for (int cell = 0; cell < 72; cell++) {
                if (cycle[cell]) {
                    settled = false;
                    results[cell] = new Result(0, rounds == 0 ? 4 : 0, List.of());
                }
            }
            if (rounds == 0) {
                Result[] ended = results.clone();
                for (int cell = 0; cell < 72; cell++) {
                    if (cycle[cell]) {
                        ended[cell] = result(cell);
                    }
                }
                results = ended;
            }
            while (!settled && gone < rounds) {
                settled = true;
                for (int cell = 0; cell < 72; cell++) {
                    if (cycle[cell]) {
                        Result next = result(cell);
                        settled &= next.sameAs(results[cell]);
                        results[cell] = next;
                    }
                }
                gone++;
            }
        }

        /** Null if something that is read is not yet known. */
        Result result(int cell) {
            if (formulas[cell].isEmpty()) {
                return EMPTY;
            }
            Reading reading = new Reading(formulas, results);
            try {
                long value = new Parser(formulas[cell]).whole().work(reading);
                return new Result(value, 0, List.copyOf(reading.read));
            } catch (Failed failed) {
                return new Result(0, failed.error, List.copyOf(reading.read));
            } catch (NotKnown notKnown) {
                return null;
            }
        }

        int height(int cell) {
            int height = 0;
            for (int read : results[cell].reads) {
                height = Math.max(height, height(read) + 1);
            }
            return height;
        }

        int bringUpToDate(State before, Collection<Integer> edited) {
            workOut();
            for (int cell = 0; cell < 72; cell++) {
                changed[cell] = !results[cell].sameAs(before.results[cell])
                        || formulas[cell].isEmpty() != before.formulas[cell].isEmpty();
            }
            int ran = 0;
            for (int cell = 0; cell < 72; cell++) {
                cause[cell] = -1;
                if (edited.contains(cell)) {
                    cause[cell] = cell;
                }
                for (int read : before.results[cell].reads) {
                    if (cause[cell] == -1 && changed[read]) {
                        cause[cell] = read;
                    }
                }
                if (cause[cell] == -1 && (cycle[cell] || before.cycle[cell])) {
                    cause[cell] = cell;
                }
                if (cause[cell] != -1) {
                    ran++;
                    runs[cell]++;
                } else {
                    sameAsBefore(before, cell);
                }
            }
            return ran;
        }

        /** A cell that is not run must be as if it had been. */
        void sameAsBefore(State before, int cell) {
            if (!results[cell].equals(before.results[cell])) {
                throw new IllegalStateException("the document contradicts itself at " + cell);
            }
        }
    }

    /** A formula without a fault, as a tree. */
    static final class Parser {
        final String text;
        int at;

        Parser(String text) {
            this.text = text;
        }

        Node whole() {
            Node node = formula();
            if (at != text.length()) {
                throw new IllegalStateException("no formula: " + text);
            }
            return node;
        }

        boolean next(char sign) {
            if (at < text.length() && text.charAt(at) == sign) {
                at++;
                return true;
            }
            return false;
        }

        static long inRange(long number) {
            if (number < -1000000000L || number > 1000000000L) {
                throw new Failed(1);
            }
            return number;
        }

        Node formula() {
            Node node = product();
            while (at < text.length() && "+-".indexOf(text.charAt(at)) >= 0) {
                int sign = text.charAt(at++) == '+' ? 1 : -1;
                Node left = node;
                Node right = product();
                node = reading -> {
                    long first = left.work(reading);
                    return inRange(first + sign * right.work(reading));
                };
            }
            return node;
        }

        Node product() {
            Node node = factor();
            while (next('*')) {
                Node left = node;
                Node right = factor();
                node = reading -> {
                    long first = left.work(reading);
                    return inRange(first * right.work(reading));
                };
            }
            return node;
        }

        Node factor() {
            if (next('-')) {
                Node inner = factor();
                return reading -> -inner.work(reading);
            }
            if (next('(')) {
                Node inner = formula();
                next(')');
                return inner;
            }
            Matcher number = Pattern.compile("[0-9]+").matcher(text).region(at, text.length());
            if (number.lookingAt()) {
                at = number.end();
                long value = Long.parseLong(number.group());
                return reading -> value;
            }
            Matcher cell = Pattern.compile("[a-h][1-9]").matcher(text).region(at, text.length());
            if (cell.lookingAt()) {
                at = cell.end();
                int place = Sheet.cell(cell.group());
                return reading -> reading.read(place);
            }
            return function();
        }

        Node function() {
            int open = text.indexOf('(', at);
            String name = text.substring(at, open);
            at = open;
            if (name.equals("min") || name.equals("max") || name.equals("sum") || name.equals("count")) {
                List<Object> parts = new ArrayList<>();
                do {
                    at++;
                    parts.add(part());
                } while (text.charAt(at) == ',');
                at++;
                return reading -> gather(name, parts, reading);
            }
            List<Node> nodes = new ArrayList<>();
            do {
                at++;
                nodes.add(formula());
            } while (text.charAt(at) == ',');
            at++;
            return switch (name) {
                case "if" -> reading -> nodes.get(nodes.get(0).work(reading) != 0 ? 1 : 2).work(reading);
                case "pick" -> reading -> {
                    long wanted = nodes.get(0).work(reading);
                    if (wanted < 1 || wanted >= nodes.size()) {
                        throw new Failed(3);
                    }
                    return nodes.get((int) wanted).work(reading);
                };
                default -> reading -> {
                    long first = nodes.get(0).work(reading);
                    return ofTwo(name, first, nodes.get(1).work(reading), reading);
                };
            };
        }

        static long ofTwo(String name, long first, long second, Reading reading) {
            if (name.equals("at")) {
                if (first < 0 || first > 7 || second < 0 || second > 8) {
                    throw new Failed(3);
                }
                return reading.read((int) (second * 8 + first));
            }
            if (second == 0) {
                throw new Failed(2);
            }
            long quotient = first / second;
            if (quotient * second != first && (first < 0) != (second < 0)) {
                quotient--;
            }
            return name.equals("div") ? inRange(quotient) : inRange(first - second * quotient);
        }

        /** The cells of an area as a list, or a Node. */
        Object part() {
            Matcher area = Pattern.compile("([a-h][1-9])(:([a-h][1-9]))?(?=[,)])").matcher(text)
                    .region(at, text.length());
            if (!area.lookingAt()) {
                return formula();
            }
            at = area.end();
            int first = Sheet.cell(area.group(1));
            int last = area.group(3) == null ? first : Sheet.cell(area.group(3));
            List<Integer> cells = new ArrayList<>();
            for (int cell = first; cell <= last; cell++) {
                if (cell % 8 >= first % 8 && cell % 8 <= last % 8) {
                    cells.add(cell);
                }
            }
            return cells;
        }

        static long gather(String name, List<Object> parts, Reading reading) {
            List<Long> taken = new ArrayList<>();
            long sum = 0;
            for (Object part : parts) {
                if (part instanceof Node node) {
                    taken.add(node.work(reading));
                    sum = name.equals("sum") ? inRange(sum + taken.get(taken.size() - 1)) : 0;
                } else {
                    for (Object cell : (List<?>) part) {
                        long value = reading.read((Integer) cell);
                        if (!reading.formulas[(Integer) cell].isEmpty()) {
                            taken.add(value);
                            sum = name.equals("sum") ? inRange(sum + value) : 0;
                        }
                    }
                }
            }
            return switch (name) {
                case "sum" -> sum;
                case "count" -> taken.size();
                case "min" -> taken.stream().mapToLong(v -> v).min().orElse(0);
                default -> taken.stream().mapToLong(v -> v).max().orElse(0);
            };
        }
    }

    State now = new State();
    final Deque<State> history = new ArrayDeque<>();
    String text = "";

    private void keep() {
        history.addLast(now.copy());
        if (history.size() == 5) {
            history.removeFirst();
        }
    }

    private static boolean out(int number, int last) {
        return number < 0 || number > last;
    }

    int type(int character) {
        if (character < 32 || character > 126) {
            return INVALID;
        }
        if (text.length() == 30) {
            return LIMIT;
        }
        text += (char) character;
        return text.length();
    }

    int clearText() {
        int length = text.length();
        text = "";
        return length;
    }

    int fault() {
        int fault = Grammar.fault(text);
        return fault == -1 ? MISSING : fault;
    }

    private int letWait(int cell, String formula) {
        if (now.waiting.size() == 8 && !now.waiting.containsKey(cell)) {
            return LIMIT;
        }
        keep();
        now.waiting.put(cell, formula);
        return now.waiting.size();
    }

    int put(int cell) {
        if (out(cell, 71)) {
            return INVALID;
        }
        return Grammar.fault(text) != -1 ? IMPOSSIBLE : letWait(cell, text);
    }

    int copy(int from, int to) {
        if (out(from, 71) || out(to, 71)) {
            return INVALID;
        }
        StringBuilder shifted = new StringBuilder();
        Matcher cells = Pattern.compile("[a-h][1-9]").matcher(now.formulas[from]);
        while (cells.find()) {
            int cell = Sheet.cell(cells.group());
            int column = cell % 8 + to % 8 - from % 8;
            int row = cell / 8 + to / 8 - from / 8;
            if (out(column, 7) || out(row, 8)) {
                return IMPOSSIBLE;
            }
            cells.appendReplacement(shifted, Sheet.name(row * 8 + column));
        }
        cells.appendTail(shifted);
        return letWait(to, shifted.toString());
    }

    int drop() {
        int size = now.waiting.size();
        if (size == 0) {
            return IMPOSSIBLE;
        }
        keep();
        now.waiting.clear();
        return size;
    }

    int waitingAt(int index) {
        return index < 0 ? INVALID : at(new ArrayList<>(now.waiting.keySet()), index);
    }

    private static int at(List<Integer> list, int index) {
        return index < list.size() ? list.get(index) : MISSING;
    }

    int update() {
        if (now.waiting.isEmpty()) {
            return IMPOSSIBLE;
        }
        keep();
        State before = now.copy();
        now.waiting.forEach((cell, formula) -> now.formulas[cell] = formula);
        now.waiting.clear();
        return now.bringUpToDate(before, before.waiting.keySet());
    }

    int rounds(int rounds) {
        if (out(rounds, 40)) {
            return INVALID;
        }
        keep();
        State before = now.copy();
        now.rounds = rounds;
        now.bringUpToDate(before, List.of());
        return before.rounds;
    }

    int value(int cell) {
        if (out(cell, 71)) {
            return INVALID;
        }
        return now.results[cell].error != 0 ? MISSING : (int) now.results[cell].value;
    }

    int cellOf(int cell, int what) {
        if (out(cell, 71) || out(what, 8)) {
            return INVALID;
        }
        return switch (what) {
            case 0 -> now.results[cell].error;
            case 1 -> now.cycle[cell] ? MISSING : now.height(cell);
            case 2 -> now.results[cell].reads.size();
            case 3 -> now.formulas[cell].isEmpty() ? 1 : 0;
            case 4 -> now.runs[cell];
            case 5 -> now.cause[cell] >= 0 ? 1 : 0;
            case 6 -> now.changed[cell] ? 1 : 0;
            case 7 -> now.cycle[cell] ? 1 : 0;
            default -> now.formulas[cell].length();
        };
    }

    int letterAt(int cell, int index) {
        if (out(cell, 71) || index < 0) {
            return INVALID;
        }
        return index < now.formulas[cell].length() ? now.formulas[cell].charAt(index) : MISSING;
    }

    int readAt(int cell, int index) {
        return out(cell, 71) || index < 0 ? INVALID : at(now.results[cell].reads, index);
    }

    int readerAt(int cell, int index) {
        if (out(cell, 71) || index < 0) {
            return INVALID;
        }
        List<Integer> readers = new ArrayList<>();
        for (int reader = 0; reader < 72; reader++) {
            if (now.results[reader].reads.contains(cell)) {
                readers.add(reader);
            }
        }
        return at(readers, index);
    }

    int ranAt(int index) {
        if (index < 0) {
            return INVALID;
        }
        List<Integer> ran = new ArrayList<>();
        for (int cell = 0; cell < 72; cell++) {
            if (now.cause[cell] >= 0) {
                ran.add(cell);
            }
        }
        ran.sort((a, b) -> {
            int first = now.cycle[a] ? 1000 : now.height(a);
            int second = now.cycle[b] ? 1000 : now.height(b);
            return first != second ? first - second : a - b;
        });
        return at(ran, index);
    }

    int changedAt(int index) {
        if (index < 0) {
            return INVALID;
        }
        List<Integer> changed = new ArrayList<>();
        for (int cell = 0; cell < 72; cell++) {
            if (now.changed[cell]) {
                changed.add(cell);
            }
        }
        return at(changed, index);
    }

    int cause(int cell) {
        if (out(cell, 71)) {
            return INVALID;
        }
        return now.cause[cell] < 0 ? MISSING : now.cause[cell];
    }

    int chainAt(int cell, int index) {
        if (out(cell, 71) || index < 0) {
            return INVALID;
        }
        List<Integer> chain = new ArrayList<>();
        for (int next = cell; now.cause[cell] >= 0 && !chain.contains(next); next = now.cause[next]) {
            chain.add(next);
        }
        return at(chain, index);
    }

    int whatIf(int cell, int number, int of) {
        if (out(cell, 71) || out(of, 71) || Math.abs((long) number) > 999999) {
            return INVALID;
        }
        State other = now.copy();
        other.formulas[cell] = Integer.toString(number);
        other.workOut();
        return other.results[of].error != 0 ? MISSING : (int) other.results[of].value;
    }

    int count(int what) {
        int sum = 0;
        for (int cell = 0; cell < 72; cell++) {
            sum += switch (what) {
                case 0 -> now.formulas[cell].isEmpty() ? 0 : 1;
                case 1 -> now.waiting.containsKey(cell) ? 1 : 0;
                case 2 -> now.cause[cell] >= 0 ? 1 : 0;
                case 3 -> now.changed[cell] ? 1 : 0;
                case 6 -> now.cycle[cell] ? 1 : 0;
                case 7 -> now.results[cell].error != 0 ? 1 : 0;
                case 8 -> now.cycle[cell] ? 0 : Math.max(0, now.height(cell) - sum);
                case 12 -> now.runs[cell];
                default -> 0;
            };
        }
        return switch (what) {
            case 0, 1, 2, 3, 6, 7, 8, 12 -> sum;
            case 4 -> now.gone;
            case 5 -> now.settled ? 1 : 0;
            case 9 -> now.rounds;
            case 10 -> history.size();
            case 11 -> text.length();
            default -> INVALID;
        };
    }

    int undo() {
        if (history.isEmpty()) {
            return IMPOSSIBLE;
        }
        now = history.removeLast();
        return history.size();
    }
}
