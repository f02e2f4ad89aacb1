import java.util.ArrayList;
import java.util.List;

/**
 * Big sound tables from small formulas: v is a condition of its own, & and | join the two formulas behind them.
 * Such a table's tree needs far more leaves than the table has rules.
 */
final class Formula {
    private final String written;
    private int at = 0;

    private record Rules(List<String> yes, List<String> no, int conditions) {
    }

    private Formula(String written) {
        this.written = written;
    }

    private Rules next() {
        char kind = written.charAt(at++);
        if (kind == 'v') {
            return new Rules(List.of("Y"), List.of("N"), 1);
        }
        Rules f = next();
        Rules g = next();
        int n = f.conditions + g.conditions;
        if (kind == '&') {
            return new Rules(both(f.yes, g.yes), either(f.no, g.no, f.conditions, g.conditions), n);
        }
        return new Rules(either(f.yes, g.yes, f.conditions, g.conditions), both(f.no, g.no), n);
    }

    private static List<String> both(List<String> a, List<String> b) {
        List<String> all = new ArrayList<>();
        for (String x : a) {
            for (String y : b) {
                all.add(x + y);
            }
        }
        return all;
    }

    private static List<String> either(List<String> a, List<String> b, int n, int m) {
        List<String> all = new ArrayList<>(both(a, List.of("-".repeat(m))));
        all.addAll(both(List.of("-".repeat(n)), b));
        return all;
    }

    /** A table with two actions, where a formula holds and where it does not. */
    static String table(String formula) {
        Rules f = new Formula(formula).next();
        StringBuilder text = head(f.conditions);
        write(text, f.yes, "w");
        write(text, f.no, "x");
        return text.toString();
    }

    private static StringBuilder head(int conditions) {
        StringBuilder text = new StringBuilder("if a");
        for (int c = 1; c < conditions; c++) {
            text.append(',').append((char) ('a' + c));
        }
        return text.append(';');
    }

    /** A table with an action for each of the four ways in which two formulas can hold or not. */
    static String table(String first, String second) {
        Rules f = new Formula(first).next();
        Rules g = new Formula(second).next();
        StringBuilder text = head(f.conditions + g.conditions);
        write(text, both(f.yes, g.yes), "w");
        write(text, both(f.yes, g.no), "x");
        write(text, both(f.no, g.yes), "y");
        write(text, both(f.no, g.no), "z");
        return text.toString();
    }

    private static void write(StringBuilder text, List<String> rules, String action) {
        for (String marks : rules) {
            text.append(marks).append("do ").append(action).append(';');
        }
    }
}
