import java.util.ArrayList;
import java.util.List;

/** Texts of tables, made from a number that is counted on: the same texts each time. */
final class Texts {
    private long state;

    Texts(long seed) {
        state = seed;
    }

    /** 0 .. n - 1. */
    int below(int n) {
        state = state * 6364136223846793005L + 1442695040888963407L;
        return (int) ((state >>> 33) % n);
    }

    boolean oneOf(int n) {
        return below(n) == 0;
    }

    private String newName(List<String> not) {
        String[] special = {"if", "do", "i", "d", "iff", "do1", "abcdefghij", "abcdefghi", "z9"};
        while (true) {
            StringBuilder name = new StringBuilder();
            if (oneOf(4)) {
                name.append(special[below(special.length)]);
            } else {
                name.append((char) ('a' + below(26)));
                int more = oneOf(3) ? below(10) : below(2);
                for (int i = 0; i < more; i++) {
                    name.append("abcxyz0189".charAt(below(10)));
                }
            }
            if (!not.contains(name.toString())) {
                return name.toString();
            }
        }
    }

    List<String> names(int n) {
        List<String> names = new ArrayList<>();
        for (int i = 0; i < n; i++) {
            names.add(newName(names));
        }
        return names;
    }

    /** Which action each case has: by a tree of chance, so that rules can leave conditions open. */
    private void fill(int[] actionOf, int n, int decided, int value, int actions) {
        int openCount = n - Integer.bitCount(decided);
        if (openCount == 0 || oneOf(5)) {
            int action = below(actions);
            for (int i = 0; i < actionOf.length; i++) {
                if ((i & decided) == value) {
                    actionOf[i] = action;
                }
            }
            return;
        }
        int bit = 1;
        for (int skip = below(openCount); skip > 0 || (decided & bit) != 0; bit <<= 1) {
            skip -= (decided & bit) == 0 ? 1 : 0;
        }
        fill(actionOf, n, decided | bit, value, actions);
        fill(actionOf, n, decided | bit, value | bit, actions);
    }

    private static boolean isOneAction(int[] actionOf, int cared, int value) {
        for (int i = 0; i < actionOf.length; i++) {
            if ((i & cared) == value && actionOf[i] != actionOf[value]) {
                return false;
            }
        }
        return true;
    }

    /** A rule that meets a case, with as many conditions left open as chance lets it. */
    private String marksFor(int[] actionOf, int n, int theCase) {
        int cared = actionOf.length - 1;
        for (int tries = below(2 * n + 1); tries > 0; tries--) {
            int without = cared & ~(1 << below(n));
            if (isOneAction(actionOf, without, theCase & without)) {
                cared = without;
            }
        }
        StringBuilder marks = new StringBuilder();
        for (int c = 0; c < n; c++) {
            marks.append((cared >> c & 1) == 0 ? '-' : (theCase >> c & 1) == 1 ? 'Y' : 'N');
        }
        return marks.toString();
    }

    private static boolean meets(String marks, int theCase) {
        for (int c = 0; c < marks.length(); c++) {
            if (marks.charAt(c) == ((theCase >> c & 1) == 1 ? 'N' : 'Y')) {
                return false;
            }
        }
        return true;
    }

    /** Rules of a sound table: each is its marks and the number of its action. */
    private List<String[]> soundRules(int n, int actions) {
        int[] actionOf = new int[1 << n];
        fill(actionOf, n, 0, 0, actions);
        boolean[] isMet = new boolean[1 << n];
        List<String[]> rules = new ArrayList<>();
        for (int k = 0; k < actionOf.length; k++) {
            int theCase = k ^ 21 & actionOf.length - 1;
            if (isMet[theCase] && !oneOf(2 * actionOf.length)) {
                continue;
            }
            String marks = marksFor(actionOf, n, theCase);
            for (int i = 0; i < isMet.length; i++) {
                isMet[i] |= meets(marks, i);
            }
            rules.add(below(rules.size() + 1), new String[] {marks, "" + actionOf[theCase]});
        }
        return rules;
    }

    private List<String[]> anyRules(int n, int actions) {
        List<String[]> rules = new ArrayList<>();
        for (int r = below(8); r >= 0; r--) {
            StringBuilder marks = new StringBuilder();
            for (int c = 0; c < n; c++) {
                marks.append("YN-".charAt(below(3)));
            }
            rules.add(new String[] {marks.toString(), "" + below(actions)});
        }
        return rules;
    }

    private String blanks(int atLeast) {
        StringBuilder blanks = new StringBuilder();
        for (int n = oneOf(6) ? atLeast + below(3) : atLeast; n > 0; n--) {
            blanks.append(oneOf(4) ? "\t\n\r ".charAt(below(4)) : ' ');
        }
        return blanks.toString();
    }

    private String written(List<String> conditions, List<String> actions, List<String[]> rules) {
        StringBuilder text = new StringBuilder(blanks(0)).append("if").append(blanks(1));
        for (int c = 0; c < conditions.size(); c++) {
            text.append(c == 0 ? "" : "," + blanks(0)).append(conditions.get(c)).append(blanks(0));
        }
        text.append(';');
        for (String[] rule : rules) {
            for (char mark : rule[0].toCharArray()) {
                text.append(blanks(0)).append(mark);
            }
            text.append(blanks(0)).append("do").append(blanks(1));
            text.append(actions.get(Integer.parseInt(rule[1]))).append(blanks(0)).append(';');
        }
        return text.append(blanks(0)).toString();
    }

    /** A text of a table: mostly sound, sometimes with a gap, a contradiction, or rules by chance. */
    String table(int mostConditions) {
        int n = 1 + below(mostConditions);
        int kinds = 1 + below(oneOf(5) ? 9 : 3);
        List<String[]> rules = oneOf(8) ? anyRules(n, kinds) : soundRules(n, kinds);
        if (oneOf(6) && rules.size() > 1) {
            rules.remove(below(rules.size()));
        }
        if (oneOf(6)) {
            rules.get(below(rules.size()))[1] = "" + below(kinds);
        }
        while (rules.size() > 250) {
            rules.remove(below(rules.size()));
        }
        return written(names(n), names(kinds), rules);
    }

    /** A text with a byte changed, put in, taken out, or its end cut off. */
    String spoilt(String text) {
        int at = below(text.length());
        String behind = text.substring(at + 1);
        String before = text.substring(0, at);
        String bytes = "YN-;,ifdo a9Z_\n\u0000\u0080\u00e1\u00ff\u000b{`/:";
        char b = bytes.charAt(below(bytes.length()));
        switch (below(5)) {
            case 0:
                return before + b + behind;
            case 1:
                return before + b + text.substring(at);
            case 2:
                return before + behind;
            case 3:
                return before + "abcdefghijk".substring(below(11)) + text.substring(at);
            default:
                return before;
        }
    }
}
