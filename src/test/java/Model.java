import java.util.ArrayList;
import java.util.List;

/**
 * The document once more, by the plainest means: texts are cut into parts first, cases are tried one by one,
 * the tree is made of objects. The random runs compare RuleTables with it.
 */
final class Model {
    private static final int NONE = -1;

    private record Part(int kind, int place, String text) {
    }

    private static final int END = 0, NAME = 1, OTHER = 2;

    private record Rule(String marks, int action) {
        boolean meets(int theCase) {
            for (int c = 0; c < marks.length(); c++) {
                boolean holds = (theCase >> c) % 2 == 1;
                if (marks.charAt(c) == 'Y' && !holds || marks.charAt(c) == 'N' && holds) {
                    return false;
                }
            }
            return true;
        }
    }

    private static final class Node {
        int number;
        int place;
        int condition = NONE;
        int action = NONE;
        Node holds;
        Node not;
    }

    private static final class Fault extends RuntimeException {
        private static final long serialVersionUID = 1;
        final int kind;
        final int place;

        Fault(int kind, int place) {
            this.kind = kind;
            this.place = place;
        }
    }

    private final StringBuilder tape = new StringBuilder();
    private int latestFault = 0;
    private boolean hasTable = false;
    private List<String> conditions = new ArrayList<>();
    private List<String> actions = new ArrayList<>();
    private List<Rule> rules = new ArrayList<>();
    private int[] amiss = {NONE, NONE, NONE};
    private List<Node> nodes = new ArrayList<>();
    private List<Integer> code = new ArrayList<>();

    int type(long bytes, int n) {
        if (n < 1 || n > 8) {
            throw new IllegalArgumentException();
        }
        if (tape.length() + n > 8000) {
            throw new UnsupportedOperationException();
        }
        for (int i = 1; i <= n; i++) {
            tape.append((char) (bytes >> 8 * (n - i) & 255));
        }
        return tape.length();
    }

    void keep(int n) {
        if (n < 0 || n > tape.length()) {
            throw new IllegalArgumentException();
        }
        tape.setLength(n);
    }

    // ---- reading

    private static List<Part> partsOf(String text) {
        List<Part> parts = new ArrayList<>();
        int at = 0;
        while (at < text.length()) {
            char b = text.charAt(at);
            if ("\t\n\r ".indexOf(b) >= 0) {
                at++;
                continue;
            }
            int to = at + 1;
            boolean isName = b >= 'a' && b <= 'z';
            while (isName && to < text.length() && "abcdefghijklmnopqrstuvwxyz0123456789".indexOf(text.charAt(to)) >= 0) {
                to++;
            }
            parts.add(new Part(isName ? NAME : OTHER, at, text.substring(at, to)));
            at = to;
        }
        parts.add(new Part(END, text.length(), ""));
        return parts;
    }

    private static Part nameAt(List<Part> parts, int i) {
        Part part = parts.get(i);
        if (part.kind != NAME || part.text.length() > 10) {
            throw new Fault(1, part.place);
        }
        return part;
    }

    private static void must(List<Part> parts, int i, String text) {
        if (!parts.get(i).text.equals(text)) {
            throw new Fault(1, parts.get(i).place);
        }
    }

    private static void parse(List<Part> parts, List<String> conditions, List<String> actions, List<Rule> rules) {
        must(parts, 0, "if");
        int i = 1;
        while (true) {
            Part name = nameAt(parts, i);
            if (conditions.contains(name.text)) {
                throw new Fault(2, name.place);
            }
            if (conditions.size() == 16) {
                throw new Fault(3, name.place);
            }
            conditions.add(name.text);
            i += 2;
            if (parts.get(i - 1).text.equals(",")) {
                continue;
            }
            must(parts, i - 1, ";");
            break;
        }
        do {
            StringBuilder marks = new StringBuilder();
            for (int c = 0; c < conditions.size(); c++, i++) {
                String mark = parts.get(i).text;
                if (!mark.equals("Y") && !mark.equals("N") && !mark.equals("-")) {
                    throw new Fault(1, parts.get(i).place);
                }
                if (c == 0 && rules.size() == 256) {
                    throw new Fault(3, parts.get(i).place);
                }
                marks.append(mark);
            }
            must(parts, i, "do");
            Part name = nameAt(parts, i + 1);
            if (!actions.contains(name.text)) {
                if (actions.size() == 64) {
                    throw new Fault(3, name.place);
                }
                actions.add(name.text);
            }
            must(parts, i + 2, ";");
            rules.add(new Rule(marks.toString(), actions.indexOf(name.text)));
            i += 3;
        } while (parts.get(i).kind != END);
    }

    int read() {
        String text = tape.toString();
        tape.setLength(0);
        List<String> newConditions = new ArrayList<>();
        List<String> newActions = new ArrayList<>();
        List<Rule> newRules = new ArrayList<>();
        try {
            parse(partsOf(text), newConditions, newActions, newRules);
        } catch (Fault f) {
            latestFault = f.kind;
            return -1 - f.place;
        }
        latestFault = 0;
        hasTable = true;
        conditions = newConditions;
        actions = newActions;
        rules = newRules;
        nodes = new ArrayList<>();
        code = new ArrayList<>();
        amiss = new int[] {NONE, NONE, NONE};
        return judge();
    }

    private int caseCount() {
        int n = 1;
        for (int c = 0; c < conditions.size(); c++) {
            n *= 2;
        }
        return n;
    }

    private int judge() {
        if (contradiction()) {
            return RuleTables.CONTRADICTION;
        }
        for (int theCase = 0; theCase < caseCount(); theCase++) {
            if (firstThatMeets(theCase) == NONE) {
                amiss[2] = theCase;
                return RuleTables.GAP;
            }
        }
        grow(rules, new boolean[conditions.size()]);
        if (nodes.size() > 1000) {
            nodes.clear();
            return RuleTables.TOO_BIG;
        }
        writeCode();
        return RuleTables.SOUND;
    }

    private boolean contradiction() {
        for (int i = 0; i < rules.size(); i++) {
            for (int j = i + 1; j < rules.size(); j++) {
                if (rules.get(i).action != rules.get(j).action) {
                    int least = leastOfBoth(rules.get(i), rules.get(j));
                    if (least != NONE) {
                        amiss = new int[] {i, j, least};
                        return true;
                    }
                }
            }
        }
        return false;
    }

    private int leastOfBoth(Rule a, Rule b) {
        for (int c = 0; c < conditions.size(); c++) {
            String both = "" + a.marks.charAt(c) + b.marks.charAt(c);
            if (both.equals("YN") || both.equals("NY")) {
                return NONE;
            }
        }
        for (int theCase = 0; theCase < caseCount(); theCase++) {
            if (a.meets(theCase) && b.meets(theCase)) {
                return theCase;
            }
        }
        return NONE;
    }

    private int firstThatMeets(int theCase) {
        for (int r = 0; r < rules.size(); r++) {
            if (rules.get(r).meets(theCase)) {
                return r;
            }
        }
        return NONE;
    }

    private Node grow(List<Rule> here, boolean[] tested) {
        Node node = new Node();
        node.number = nodes.size();
        nodes.add(node);
        if (nodes.size() > 1100) {
            return node;
        }
        if (here.stream().map(Rule::action).distinct().count() == 1) {
            node.action = here.get(0).action;
            return node;
        }
        node.condition = choice(here, tested);
        boolean[] then = tested.clone();
        then[node.condition] = true;
        node.holds = grow(without(here, node.condition, 'N'), then);
        node.not = grow(without(here, node.condition, 'Y'), then);
        return node;
    }

    private static List<Rule> without(List<Rule> from, int c, char mark) {
        List<Rule> rest = new ArrayList<>();
        for (Rule rule : from) {
            if (rule.marks.charAt(c) != mark) {
                rest.add(rule);
            }
        }
        return rest;
    }

    private static long weight(Rule rule, boolean[] tested) {
        long weight = 1;
        for (int c = 0; c < tested.length; c++) {
            weight *= !tested[c] && rule.marks.charAt(c) == '-' ? 2 : 1;
        }
        return weight;
    }

    private static long sum(List<Rule> here, boolean[] tested, int c, char mark) {
        return here.stream().filter(r -> r.marks.charAt(c) == mark).mapToLong(r -> weight(r, tested)).sum();
    }

    private static int choice(List<Rule> here, boolean[] tested) {
        int best = NONE;
        long bestBlanks = Long.MAX_VALUE;
        long bestDifference = 0;
        for (int c = 0; c < tested.length; c++) {
            if (tested[c]) {
                continue;
            }
            long blanks = sum(here, tested, c, '-');
            long difference = Math.abs(sum(here, tested, c, 'Y') - sum(here, tested, c, 'N'));
            if (blanks < bestBlanks || blanks == bestBlanks && difference > bestDifference) {
                best = c;
                bestBlanks = blanks;
                bestDifference = difference;
            }
        }
        return best;
    }

    private void writeCode() {
        int place = 0;
        for (Node node : nodes) {
            node.place = place;
            place += node.condition == NONE ? 1 : 3;
        }
        for (Node node : nodes) {
            if (node.condition == NONE) {
                code.add(128 + node.action);
            } else {
                code.add(node.condition);
                code.add(node.not.place / 256);
                code.add(node.not.place % 256);
            }
        }
    }

    // ---- answers

    int fault() {
        return latestFault;
    }

    private void needTable() {
        if (!hasTable) {
            throw new IllegalStateException();
        }
    }

    private void needTree() {
        if (nodes.isEmpty()) {
            throw new IllegalStateException();
        }
    }

    private static void needIndex(int i, int from, int below) {
        if (i < from || i >= below) {
            throw new IndexOutOfBoundsException();
        }
    }

    int amiss(int what) {
        needTable();
        needIndex(what, 0, 3);
        return amiss[what];
    }

    int count(int what) {
        needIndex(what, 0, 8);
        int most = 0;
        int leaves = 0;
        for (int i = 0; i < (nodes.isEmpty() ? 0 : caseCount()); i++) {
            most = Math.max(most, testsFor(i));
        }
        for (Node node : nodes) {
            leaves += node.condition == NONE ? 1 : 0;
        }
        return new int[] {conditions.size(), rules.size(), actions.size(), nodes.size(), leaves, code.size(), most, tape.length()}[what];
    }

    int rule(int r, int c) {
        needIndex(r, 0, rules.size());
        needIndex(c, NONE, conditions.size());
        return c == NONE ? rules.get(r).action : "NY-".indexOf(rules.get(r).marks.charAt(c));
    }

    int name(boolean action, int k, int i) {
        List<String> names = action ? actions : conditions;
        needIndex(k, 0, names.size());
        needIndex(i, NONE, names.get(k).length());
        return i == NONE ? names.get(k).length() : names.get(k).charAt(i);
    }

    int meets(int theCase) {
        needTable();
        needIndex(theCase, 0, caseCount());
        return firstThatMeets(theCase);
    }

    int cases(int k) {
        needTable();
        needIndex(k, NONE, actions.size());
        int n = 0;
        for (int theCase = 0; theCase < caseCount(); theCase++) {
            boolean counts = k == NONE && firstThatMeets(theCase) == NONE;
            for (Rule rule : rules) {
                counts |= rule.action == k && rule.meets(theCase);
            }
            n += counts ? 1 : 0;
        }
        return n;
    }

    int node(int k, int what) {
        needTree();
        needIndex(k, 0, nodes.size());
        needIndex(what, 0, 4);
        Node node = nodes.get(k);
        return switch (what) {
            case 0 -> node.condition;
            case 1 -> node.holds == null ? NONE : node.holds.number;
            case 2 -> node.not == null ? NONE : node.not.number;
            default -> node.action;
        };
    }

    int code(int i) {
        needTree();
        needIndex(i, 0, code.size());
        return code.get(i);
    }

    private Node leafFor(int theCase) {
        Node node = nodes.get(0);
        while (node.condition != NONE) {
            node = (theCase >> node.condition) % 2 == 1 ? node.holds : node.not;
        }
        return node;
    }

    private int testsFor(int theCase) {
        int n = 0;
        for (Node node = nodes.get(0); node.condition != NONE; n++) {
            node = (theCase >> node.condition) % 2 == 1 ? node.holds : node.not;
        }
        return n;
    }

    int run(int theCase, boolean tests) {
        needTree();
        needIndex(theCase, 0, caseCount());
        return tests ? testsFor(theCase) : leafFor(theCase).action;
    }

    long tests() {
        needTree();
        long n = 0;
        for (int theCase = 0; theCase < caseCount(); theCase++) {
            n += testsFor(theCase);
        }
        return n;
    }
}
