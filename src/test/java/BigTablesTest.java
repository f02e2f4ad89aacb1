/** Tables near the document's limits: trees of 999 and 1001 nodes, 16 conditions, 256 rules, 64 actions. */
public final class BigTablesTest {
    public static void main(String[] args) {
        atMost1000Nodes();
        tooBig();
        tooBigReplacesTree();
        compare("16 conditions that do not matter", "if a,b,c,d,e,f,g,h,i,j,k,l,m,n,o,p;----------------do x;");
        compare("the last case is a gap", allButTheLast());
        compare("a gap behind open conditions", "if a,b,c,d,e,f,g,h,i,j,k,l,m,n,o,p;-N--------------do x;-Y-Y------------do x;");
        compare("contradiction in the last rules", "if a,b,c;NNNdo x;YNNdo y;NYNdo z;YYNdo u;NNYdo v;YNYdo w;-YYdo s;YYYdo t;");
        compare("all marked", allCases(7, 64));
        compare("256 rules", allCases(8, 3));
        sumsOfWeights();
        Check.end();
    }

    private static void atMost1000Nodes() {
        String text = Formula.table("&|&vv&vv|&vv&vv", "|&v&vv&&vvv");
        RuleTables x = new RuleTables();
        Check.due("a tree of 999 nodes", RuleTables.SOUND, () -> Check.read(x, text));
        Check.due("its nodes", 999, () -> x.count(3));
        Check.due("its leaves", 500, () -> x.count(4));
        Check.due("its bytes", 1997, () -> x.count(5));
        Check.due("its last node is a leaf", RuleTables.NONE, () -> x.node(998, 0));
        Check.dueThrow("behind its last node", Check.INDEX, () -> x.node(999, 0));
        Check.dueThrow("behind its last byte", Check.INDEX, () -> x.code(1997));
        // Places from 256 on need the higher of their two bytes.
        Check.same("a far place", "" + (x.code(1) > 0), "true");
        compare("999 nodes", text);
    }

    private static void tooBig() {
        String text = Formula.table("|&vv&&vv|&vvv", "&|&&vvvv|&vv&vv");
        RuleTables x = new RuleTables();
        Check.due("a tree of 1001 nodes", RuleTables.TOO_BIG, () -> Check.read(x, text));
        Check.due("fault()", 0, () -> x.fault());
        for (int i = 0; i < 3; i++) {
            int what = i;
            Check.due("amiss(" + what + ")", RuleTables.NONE, () -> x.amiss(what));
        }
        Check.due("conditions", 15, () -> x.count(0));
        Check.due("rules", 121, () -> x.count(1));
        Check.due("actions", 4, () -> x.count(2));
        for (int i = 3; i < 8; i++) {
            int what = i;
            Check.due("count(" + what + ")", 0, () -> x.count(what));
        }
        Check.dueThrow("node(0, 0)", Check.STATE, () -> x.node(0, 0));
        Check.dueThrow("code(0)", Check.STATE, () -> x.code(0));
        Check.dueThrow("run(0, false)", Check.STATE, () -> x.run(0, false));
        Check.dueThrow("run(-1, false)", Check.STATE, () -> x.run(-1, false));
        Check.dueThrow("tests()", Check.STATE, () -> x.tests());
        Check.due("meets(0)", new Rows(text).firstThatMeets(0), () -> x.meets(0));
        Check.due("cases(NONE)", 0, () -> x.cases(RuleTables.NONE));
        compare("1001 nodes", text);
    }

    private static void tooBigReplacesTree() {
        RuleTables x = Check.table("if a; Y do x; N do y;");
        Check.due("a tree", 3, () -> x.count(3));
        Check.due("too big", RuleTables.TOO_BIG, () -> Check.read(x, Formula.table("|&vv&&vv|&vvv", "&|&&vvvv|&vv&vv")));
        Check.due("no nodes", 0, () -> x.count(3));
        Check.due("a tree again", RuleTables.SOUND, () -> Check.read(x, "if a; Y do x; N do y;"));
        Check.due("its nodes", 3, () -> x.count(3));
        Check.due("its tests", 2, () -> x.tests());
    }

    /** Rules for all cases but the one where all 16 conditions hold. */
    private static String allButTheLast() {
        StringBuilder text = new StringBuilder("if a,b,c,d,e,f,g,h,i,j,k,l,m,n,o,p;");
        for (int c = 0; c < 16; c++) {
            text.append("Y".repeat(c)).append('N').append("-".repeat(15 - c)).append("do a").append(c % 3).append(';');
        }
        return text.toString();
    }

    /** A rule for each case, the actions one after the other. */
    private static String allCases(int conditions, int actions) {
        StringBuilder text = new StringBuilder("if a");
        for (int c = 1; c < conditions; c++) {
            text.append(',').append((char) ('a' + c));
        }
        text.append(';');
        for (int i = 0; i < 1 << conditions; i++) {
            for (int c = 0; c < conditions; c++) {
                text.append((i >> c & 1) == 1 ? 'Y' : 'N');
            }
            text.append("do a").append(i * 7 % actions).append(';');
        }
        return text.toString();
    }

    /** Weights of 2 to the 15th, many times, so that sums do not fit in few bits. */
    private static void sumsOfWeights() {
        StringBuilder text = new StringBuilder("if a,b,c,d,e,f,g,h,i,j,k,l,m,n,o,p;");
        for (int r = 0; r < 90; r++) {
            text.append("Y---------------do x;");
            text.append("N---------------do ").append("y;");
        }
        compare("sums of weights", text.toString());
    }

    /** The rows of a text without blanks, for what a test must know of it. */
    private record Rows(String text) {
        int firstThatMeets(int theCase) {
            String[] rules = text.substring(text.indexOf(';') + 1).split(";");
            for (int r = 0; r < rules.length; r++) {
                if (meets(rules[r], theCase)) {
                    return r;
                }
            }
            return RuleTables.NONE;
        }

        private static boolean meets(String rule, int theCase) {
            for (int c = 0; rule.charAt(c) != 'd'; c++) {
                if (rule.charAt(c) == ((theCase >> c & 1) == 1 ? 'N' : 'Y')) {
                    return false;
                }
            }
            return true;
        }
    }

    /** Asks all that can be asked of a table, on objects that are new again before their 512th call. */
    private static void compare(String what, String text) {
        Subject x = new Subject(text);
        Model model = new Model();
        for (int from = 0; from < text.length(); from += 8) {
            int n = Math.min(8, text.length() - from);
            model.type(Check.packed(text, from, n), n);
        }
        Check.due(what + ": read()", model.read(), () -> x.verdict());
        for (int i = 0; i < 8; i++) {
            int k = i;
            Check.due(what + ": count(" + k + ")", model.count(k), () -> x.get().count(k));
        }
        for (int i = 0; i < 3; i++) {
            int k = i;
            Check.due(what + ": amiss(" + k + ")", model.amiss(k), () -> x.get().amiss(k));
        }
        for (int i = -1; i < model.count(2); i++) {
            int k = i;
            Check.due(what + ": cases(" + k + ")", model.cases(k), () -> x.get().cases(k));
        }
        compareRules(what, x, model);
        compareTree(what, x, model);
    }

    private static void compareRules(String what, Subject x, Model model) {
        for (int r = 0; r < model.count(1); r++) {
            for (int c = -1; c < model.count(0); c++) {
                int rule = r;
                int condition = c;
                Check.due(what + ": rule(" + r + ", " + c + ")", model.rule(r, c), () -> x.get().rule(rule, condition));
            }
        }
        for (int i = 0; i < 1 << model.count(0); i += 1 + i / 60) {
            int theCase = i;
            Check.due(what + ": meets(" + i + ")", model.meets(i), () -> x.get().meets(theCase));
        }
    }

    private static void compareTree(String what, Subject x, Model model) {
        int nodes = model.count(3);
        int bytes = model.count(5);
        for (int i = 0; i < 4 * nodes; i++) {
            int k = i;
            Check.due(what + ": node(" + k / 4 + ", " + k % 4 + ")", model.node(k / 4, k % 4), () -> x.get().node(k / 4, k % 4));
        }
        for (int i = 0; i < bytes; i++) {
            int k = i;
            Check.due(what + ": code(" + k + ")", model.code(k), () -> x.get().code(k));
        }
        if (nodes == 0) {
            return;
        }
        Check.due(what + ": tests()", model.tests(), () -> x.get().tests());
        for (int i = 0; i < 1 << model.count(0); i += 1 + i / 60) {
            int theCase = i;
            Check.due(what + ": run(" + i + ", false)", model.run(i, false), () -> x.get().run(theCase, false));
            Check.due(what + ": run(" + i + ", true)", model.run(i, true), () -> x.get().run(theCase, true));
        }
    }

    /** An object that has read a text; a new one takes its place before it has had 512 calls. */
    private static final class Subject {
        private final String text;
        private RuleTables x;
        private int left;
        private int verdict;

        Subject(String text) {
            this.text = text;
            renew();
        }

        private void renew() {
            x = new RuleTables();
            verdict = Check.read(x, text);
            left = 512 - (text.length() + 7) / 8 - 1;
        }

        int verdict() {
            return verdict;
        }

        RuleTables get() {
            if (left == 0) {
                renew();
            }
            left--;
            return x;
        }
    }
}
