import java.util.ArrayDeque;
import java.util.Deque;
import java.util.HashSet;
import java.util.Set;

/**
 * The grammar of formulas as the document writes it, followed in all ways at once: what may still
 * come is a set of rows of signs, of which the capital ones stand for parts of the grammar. A
 * character is a fault if no row can begin with it.
 */
final class Grammar {
    private static final int SECOND = 0x1000;

    private Grammar() {
    }

    /** -1 if there is none. */
    static int fault(String text) {
        if (text.isEmpty()) {
            return -1;
        }
        Set<String> rows = openUp(Set.of("F"));
        for (int at = 0; at < text.length(); at++) {
            Set<String> next = new HashSet<>();
            for (String row : rows) {
                if (!row.isEmpty() && row.charAt(0) == text.charAt(at)) {
                    next.add(row.substring(1));
                }
            }
            if (next.isEmpty()) {
                return at;
            }
            rows = openUp(next);
        }
        return rows.contains("") ? -1 : text.length();
    }

    private static Set<String> openUp(Set<String> rows) {
        Set<String> seen = new HashSet<>(rows);
        Deque<String> left = new ArrayDeque<>(rows);
        Set<String> plain = new HashSet<>();
        while (!left.isEmpty()) {
            String row = left.pop();
            String[] ways = row.isEmpty() ? null : ways(row.charAt(0));
            if (ways == null) {
                plain.add(row);
                continue;
            }
            for (String way : ways) {
                String opened = way + row.substring(1);
                if (seen.add(opened)) {
                    left.push(opened);
                }
            }
        }
        return plain;
    }

    /** Null if the sign stands for itself. */
    private static String[] ways(char sign) {
        switch (sign) {
            case 'F':
                return new String[] {"PR"};
            case 'R':
                return new String[] {"", "+PR", "-PR"};
            case 'P':
                return new String[] {"XQ"};
            case 'Q':
                return new String[] {"", "*XQ"};
            case 'X':
                return new String[] {"-X", "D", "DD", "DDD", "DDDD", "DDDDD", "DDDDDD", "LN", "(F)",
                    "if(F,F,F)", "pick(F,F)", "pick(F,F,F)", "pick(F,F,F,F)", "pick(F,F,F,F,F)",
                    "div(F,F)", "mod(F,F)", "at(F,F)", "min(S)", "max(S)", "sum(S)", "count(C)"};
            case 'D':
                return new String[] {"0", "1", "2", "3", "4", "5", "6", "7", "8", "9"};
            case 'L':
                return new String[] {"a", "b", "c", "d", "e", "f", "g", "h"};
            case 'N':
                return new String[] {"1", "2", "3", "4", "5", "6", "7", "8", "9"};
            case 'S':
                return new String[] {"T", "T,T", "T,T,T", "T,T,T,T"};
            case 'T':
                return new String[] {"A", "F"};
            case 'C':
                return new String[] {"A", "A,A", "A,A,A", "A,A,A,A"};
            case 'A':
                return areas();
            default:
                return sign >= SECOND ? seconds(sign - SECOND) : null;
        }
    }

    private static String[] areas() {
        String[] ways = new String[144];
        for (int cell = 0; cell < 72; cell++) {
            ways[cell] = Sheet.name(cell);
            ways[72 + cell] = Sheet.name(cell) + ":" + (char) (SECOND + cell);
        }
        return ways;
    }

    private static String[] seconds(int first) {
        Set<String> ways = new HashSet<>();
        for (int cell = 0; cell < 72; cell++) {
            if (cell % 8 >= first % 8 && cell / 8 >= first / 8) {
                ways.add(Sheet.name(cell));
            }
        }
        return ways.toArray(new String[0]);
    }
}
