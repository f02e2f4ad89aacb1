/** "2 SOUND", "3 THE TREE" and "4 CODE": for each sentence that names an edge a test of its own. */
public final class TableEdgesTest {
    private static final int NONE = RuleTables.NONE;
    private static final String SIXTEEN = "if a,b,c,d,e,f,g,h,i,j,k,l,m,n,o,p;";

    public static void main(String[] args) {
        bitsOfACase();
        aRuleMeets();
        noTwoRulesContradict();
        eachCaseIsMet();
        leastI();
        leastJ();
        leastCaseOfBoth();
        lastRulesContradict();
        gapOnlyWithoutContradiction();
        leastGap();
        oneActionIsALeaf();
        weights();
        leastBlanks();
        greatestDifference();
        leastNumber();
        twoPlaces();
        nodesAreNumbered();
        atMost1000Nodes();
        testsInCode();
        placesAround256();
        leavesInCode();
        byteFrom128EndsIt();
        Check.end();
    }

    // ---- 2 SOUND

    private static void meets(String sentence, RuleTables x, int theCase, int due) {
        Check.due(sentence + ": meets(" + theCase + ")", due, () -> x.meets(theCase));
    }

    private static void bitsOfACase() {
        String s = "bit c tells whether condition c holds";
        StringBuilder text = new StringBuilder(SIXTEEN);
        for (int c = 0; c < 16; c++) {
            text.append("-".repeat(c)).append('Y').append("-".repeat(15 - c)).append("do x;");
        }
        RuleTables x = Check.table(text.toString());
        for (int c = 0; c < 16; c++) {
            meets(s, x, 1 << c, c);
            meets(s, x, 65536 - (1 << c), c);
        }
        meets(s, x, 0, NONE);
    }

    private static void aRuleMeets() {
        String s = "A RULE MEETS it if it holds what is marked Y, and not what is marked N";
        RuleTables x = Check.table("if a,b,c;YN-do x;");
        for (int i = 0; i < 8; i++) {
            meets(s, x, i, i == 1 || i == 5 ? 0 : NONE);
        }
        RuleTables y = Check.table(SIXTEEN + "-".repeat(16) + "do x;");
        meets("no mark but -", y, 0, 0);
        meets("no mark but -", y, 65535, 0);
        RuleTables z = Check.table(SIXTEEN + "Y".repeat(16) + "do x;" + "N".repeat(16) + "do x;");
        meets("all marked", z, 65535, 0);
        meets("all marked", z, 65534, NONE);
        meets("all marked", z, 32767, NONE);
        meets("all marked", z, 0, 1);
        meets("all marked", z, 1, NONE);
        meets("all marked", z, 32768, NONE);
    }

    private static void noTwoRulesContradict() {
        String s = "no two rules with different actions meet the same case";
        Check.verdict(s, RuleTables.SOUND, "if a;-do x;-do x;Ydo x;Ndo x;");
        Check.verdict(s, RuleTables.CONTRADICTION, "if a;-do x;-do x;Ydo x;Ndo y;");
        Check.verdict(s, RuleTables.CONTRADICTION, "if a;-do x;-do y;");
        Check.verdict(s, RuleTables.SOUND, "if a;Ydo x;Ndo y;");
        Check.verdict(s, RuleTables.CONTRADICTION, "if a;Ydo x;Ydo y;Ndo x;");
        // One condition that parts two rules is enough, the first or the last.
        Check.verdict(s, RuleTables.GAP, SIXTEEN + "Y" + "-".repeat(15) + "do x;N" + "Y".repeat(15) + "do y;");
        Check.verdict(s, RuleTables.GAP, SIXTEEN + "-".repeat(15) + "Ydo x;" + "Y".repeat(15) + "Ndo y;");
        Check.verdict(s, RuleTables.CONTRADICTION, SIXTEEN + "-".repeat(15) + "Ydo x;" + "Y".repeat(15) + "Ydo y;");
    }

    private static void eachCaseIsMet() {
        String s = "each case is met";
        Check.verdict(s, RuleTables.SOUND, "if a,b;YYdo x;YNdo x;NYdo x;NNdo y;");
        Check.verdict(s, RuleTables.GAP, "if a,b;YYdo x;YNdo x;NYdo x;");
        Check.verdict(s, RuleTables.GAP, "if a,b;YYdo x;YNdo x;NNdo x;");
        Check.verdict(s, RuleTables.GAP, "if a,b;YYdo x;NYdo x;NNdo x;");
        Check.verdict(s, RuleTables.GAP, "if a,b;YNdo x;NYdo x;NNdo x;");
    }

    private static void amiss(String sentence, String text, int i, int j, int theCase) {
        RuleTables x = Check.table(text);
        Check.due(sentence + ": amiss(0) of " + text, i, () -> x.amiss(0));
        Check.due(sentence + ": amiss(1) of " + text, j, () -> x.amiss(1));
        Check.due(sentence + ": amiss(2) of " + text, theCase, () -> x.amiss(2));
    }

    private static void leastI() {
        String s = "rules i < j that CONTRADICT, the least i";
        amiss(s + ", though 1 and 2 do", "if a,b;YYdo x;NNdo x;NNdo y;YYdo y;", 0, 3, 3);
        amiss(s + ", though 2 and 3 do", "if a,b;NYdo z;YYdo x;NNdo x;NNdo y;YYdo y;", 1, 4, 3);
        amiss(s + ", the first one does not", "if a;Ydo x;Ndo x;Ndo y;", 1, 2, 0);
    }

    private static void leastJ() {
        String s = "of these the least j";
        amiss(s + ", though the next has a lesser case", "if a,b;--do x;YYdo y;NNdo y;", 0, 1, 3);
        amiss(s + ", the next has the same action", "if a,b;--do x;YYdo x;NNdo y;-Ndo z;", 0, 2, 0);
        amiss(s + ", the next is apart", "if a,b;Y-do x;NYdo y;N-do y;-Ydo z;YNdo y;", 0, 3, 3);
    }

    private static void leastCaseOfBoth() {
        String s = "the least case that both meet";
        amiss(s, "if a,b;--do x;--do y;", 0, 1, 0);
        amiss(s, "if a,b,c,d;--Y-do x;---Ydo y;", 0, 1, 12);
        amiss(s, "if a,b,c,d;-NY-do x;N--Ydo y;", 0, 1, 12);
        amiss(s, "if a,b,c,d;YN--do x;Y---do y;", 0, 1, 1);
        amiss(s, SIXTEEN + "Y" + "-".repeat(15) + "do x;" + "-".repeat(15) + "Ydo y;", 0, 1, 32769);
        amiss(s, SIXTEEN + "Y".repeat(16) + "do x;" + "-".repeat(16) + "do y;", 0, 1, 65535);
        amiss(s, SIXTEEN + "N".repeat(16) + "do x;" + "-".repeat(16) + "do y;", 0, 1, 0);
    }

    private static void lastRulesContradict() {
        String s = "CONTRADICT, of 256 rules";
        amiss(s + " the last two", "if a;" + "Ndo x;".repeat(254) + "Ydo x;Ydo y;", 254, 255, 1);
        amiss(s + " the first and the last", "if a;" + "-do x;".repeat(255) + "Ydo y;", 0, 255, 1);
        amiss(s + " the first two", "if a;-do x;" + "Ndo y;".repeat(255), 0, 1, 0);
    }

    private static void gapOnlyWithoutContradiction() {
        String s = "AMISS is, first: rules that CONTRADICT. If there are none: a GAP";
        Check.verdict(s, RuleTables.CONTRADICTION, "if a,b;YYdo x;YYdo y;");
        amiss(s, "if a,b;YYdo x;YYdo y;", 0, 1, 3);
        Check.verdict(s, RuleTables.GAP, "if a,b;YYdo x;YYdo x;");
        amiss(s, "if a,b;YYdo x;YYdo x;", NONE, NONE, 0);
        amiss(s + ", nor that", "if a,b;--do x;YYdo x;", NONE, NONE, NONE);
    }

    private static void leastGap() {
        String s = "the least case that none meets";
        amiss(s, "if a;Ydo x;", NONE, NONE, 0);
        amiss(s, "if a;Ndo x;", NONE, NONE, 1);
        amiss(s + ", of 1 and 6", "if a,b,c;NN-do x;YY-do x;YNYdo y;NYNdo y;", NONE, NONE, 1);
        amiss(s + ", of 3 and 4", "if a,b,c;-NNdo x;NYNdo x;Y-Ydo y;-YYdo y;", NONE, NONE, 3);
        // The last rule leaves c open, the others do not.
        amiss(s + ", of 2 and 4", "if a,b,c;NNNdo x;YNNdo x;YNYdo x;NYYdo x;YY-do x;", NONE, NONE, 2);
        amiss(s + ", of 2 and 4", "if a,b,c;YY-do x;NYYdo x;YNYdo x;YNNdo x;NNNdo x;", NONE, NONE, 2);
        amiss(s + ", of 6 and 7", "if a,b,c;-N-do x;-YNdo y;", NONE, NONE, 6);
        amiss(s + ", the last of 16 conditions", SIXTEEN + "-".repeat(15) + "Ndo x;", NONE, NONE, 32768);
        amiss(s + ", the first of 16 conditions", SIXTEEN + "N" + "-".repeat(15) + "do x;", NONE, NONE, 1);
        StringBuilder all = new StringBuilder(SIXTEEN);
        for (int c = 0; c < 16; c++) {
            all.append("Y".repeat(c)).append('N').append("-".repeat(15 - c)).append("do x;");
        }
        amiss(s + ", the last of all cases", all.toString(), NONE, NONE, 65535);
        Check.verdict(s + ", there is none", RuleTables.SOUND, all + "Y".repeat(16) + "do x;");
    }

    // ---- 3 THE TREE

    /** A tree as a text: a test is c(where it holds, where it does not), a leaf is its action's first letter. */
    private static String drawn(RuleTables x, int k) {
        if (x.node(k, 0) == NONE) {
            return "" + (char) x.name(true, x.node(k, 3), 0);
        }
        String holds = drawn(x, x.node(k, 1));
        return (char) x.name(false, x.node(k, 0), 0) + "(" + holds + "," + drawn(x, x.node(k, 2)) + ")";
    }

    private static void tree(String sentence, String text, String due) {
        Check.same(sentence + ": " + text, drawn(Check.table(text), 0), due);
    }

    private static void oneActionIsALeaf() {
        String s = "if all of these rules have one action: that is a LEAF";
        tree(s, "if a;-do x;", "x");
        tree(s, "if a,b;Y-do x;NYdo x;NNdo x;", "x");
        tree(s, "if a,b;YYdo x;YNdo x;N-do y;", "a(x,y)");
        tree(s + ", else a TEST", "if a,b;NNdo x;-Ydo y;-Ndo x;", "b(y,x)");
        tree(s + ", else a TEST", "if a,b;Y-do x;N-do y;Y-do x;", "a(x,y)");
    }

    private static void weights() {
        // Weights at first: 4, 2, 4, 1; where c holds 2, 2, 1: without c BLANKS and DIFFERENCE of a and b are alike.
        tree("conditions not tested yet", "if a,b,c;-N-do x;N-Ydo x;--Ndo x;YYYdo y;", "c(a(b(y,x),x),x)");
        // BLANKS 6, 4, 4, the DIFFERENCES of b and c alike: a rule with two - weighs as much as two with one.
        tree("2 to the number", "if a,b,c;N-Ndo x;-Y-do x;Y-Ndo x;-NYdo y;", "b(x,c(y,x))");
        // BLANKS of a and b are alike, DIFFERENCES 0 and 2: a rule without - weighs 1, one with it 2.
        tree("2 to the number", "if a,b;YNdo x;N-do y;YYdo y;-Ydo y;", "b(y,a(x,y))");
    }

    private static void leastBlanks() {
        String s = "the least BLANKS";
        tree(s, "if a,b;Y-do x;N-do y;", "a(x,y)");
        tree(s, "if a,b;-Ydo x;-Ndo y;", "b(x,y)");
        // One rule has - in a, one in b: BLANKS 2 and 4.
        tree(s + ", sums of weights", "if a,b,c;-NYdo x;NN-do x;NY-do y;Y--do x;", "a(x,b(y,x))");
        tree(s + " before DIFFERENCE", "if a,b;Y-do x;YYdo x;N-do y;NYdo y;", "a(x,y)");
    }

    private static void greatestDifference() {
        String s = "of these the greatest DIFFERENCE";
        tree(s, "if a,b;YYdo x;NYdo y;YNdo z;NNdo u;YYdo x;NYdo y;", "b(a(x,y),a(z,u))");
        tree(s + ", without sign", "if a,b;YYdo x;NYdo y;YNdo z;NNdo u;YNdo z;NNdo u;", "b(a(x,y),a(z,u))");
        // DIFFERENCES are 1 each, once by Y and once by N.
        tree(s + ", without sign", "if a,b;N-do x;YNdo y;-Ydo x;", "a(b(x,y),x)");
        tree(s + ", without sign", "if a,b;NYdo x;-Ndo y;Y-do y;", "a(y,b(x,y))");
    }

    private static void leastNumber() {
        String s = "of these the least number";
        tree(s, "if a,b;NNdo x;YNdo y;YYdo y;NYdo x;", "a(y,x)");
        tree(s, "if a,b;YYdo x;NYdo y;YNdo z;NNdo u;", "a(b(x,z),b(y,u))");
        tree(s, SIXTEEN + "-".repeat(14) + "YYdo x;" + "-".repeat(14) + "YNdo y;" + "-".repeat(14) + "NYdo y;"
                + "-".repeat(14) + "NNdo x;", "o(p(x,y),p(y,x))");
    }

    private static void twoPlaces() {
        String s = "where it holds (the rules without N in it), and where it does not (those without Y)";
        tree(s, "if a;Ydo x;Ndo y;", "a(x,y)");
        // The rule with - in a stands at both places.
        tree(s, "if a,b;-Ydo x;YNdo y;NNdo z;", "b(x,a(y,z))");
        tree(s, "if a,b,c;YY-do p;-NYdo q;N-Ndo p;YNNdo p;NYYdo q;", "a(b(p,c(q,p)),c(q,p))");
    }

    private static void nodes(String sentence, String text, int[]... due) {
        RuleTables x = Check.table(text);
        Check.due(sentence + ": nodes of " + text, due.length, () -> x.count(3));
        for (int k = 0; k < due.length; k++) {
            for (int what = 0; what < 4; what++) {
                int node = k;
                int w = what;
                Check.due(sentence + ": node(" + k + ", " + what + ") of " + text, due[k][what], () -> x.node(node, w));
            }
        }
    }

    private static void nodesAreNumbered() {
        String s = "NODES are numbered from 0: one, then all where its condition holds, then all where it does not";
        int[] p = {NONE, NONE, NONE, 0};
        int[] q = {NONE, NONE, NONE, 1};
        nodes(s, "if a;-do x;", p);
        nodes(s, "if a;Ydo x;Ndo y;", new int[] {0, 1, 2, NONE}, p, q);
        nodes(s, "if a,b;Y-do p;NYdo q;NNdo p;", new int[] {0, 1, 2, NONE}, p, new int[] {1, 3, 4, NONE}, q, p);
        nodes(s, "if a,b;N-do p;YYdo q;YNdo p;", new int[] {0, 1, 4, NONE}, new int[] {1, 2, 3, NONE}, q, p, p);
        nodes(s, "if a,b;YYdo p;YNdo q;NYdo q;NNdo p;",
                new int[] {0, 1, 4, NONE}, new int[] {1, 2, 3, NONE}, p, q, new int[] {1, 5, 6, NONE}, q, p);
    }

    /** A tree has an odd number of nodes: 999 is the most, 1001 the least that is too big. */
    private static void atMost1000Nodes() {
        String s = "With more than 1000 nodes the tree is TOO BIG: then there is none";
        String most = Formula.table("&|&vv&vv|&vv&vv", "|&v&vv&&vvv");
        Check.verdict(s, RuleTables.SOUND, most);
        Check.due(s, 999, () -> Check.table(most).count(3));
        String tooBig = Formula.table("|&vv&&vv|&vvv", "&|&&vvvv|&vv&vv");
        Check.verdict(s, RuleTables.TOO_BIG, tooBig);
        RuleTables x = Check.table(tooBig);
        for (int i = 3; i < 7; i++) {
            int what = i;
            Check.due(s + ": count(" + what + ")", 0, () -> x.count(what));
        }
        Check.dueThrow(s, Check.STATE, () -> x.node(0, 0));
        Check.dueThrow(s, Check.STATE, () -> x.code(0));
        Check.dueThrow(s, Check.STATE, () -> x.run(0, true));
        Check.dueThrow(s, Check.STATE, () -> x.tests());
    }

    // ---- 4 CODE

    private static void code(String sentence, RuleTables x, int from, int... due) {
        for (int i = 0; i < due.length; i++) {
            int place = from + i;
            Check.due(sentence + ": code(" + place + ")", due[i], () -> x.code(place));
        }
    }

    private static void testsInCode() {
        String s = "a TEST: its condition, and the place of the code where it does not hold";
        code(s, Check.table("if a;Ydo x;Ndo y;"), 0, 0, 0, 4, 128, 129);
        code(s, Check.table(SIXTEEN + "-".repeat(15) + "Ydo x;" + "-".repeat(15) + "Ndo y;"), 0, 15, 0, 4, 128, 129);
        RuleTables x = Check.table("if a,b;N-do p;YYdo q;YNdo p;");
        code(s + "; what is done where it holds stands behind", x, 0, 0, 0, 8, 1, 0, 7, 129, 128, 128);
        Check.due(s, 9, () -> x.count(5));
        Check.dueThrow("behind the last byte", Check.INDEX, () -> x.code(9));
    }

    /** A rule for each case, with action e or o by whether an even number of conditions holds; one case may be turned. */
    private static String parity(int conditions, int turned) {
        StringBuilder text = new StringBuilder(SIXTEEN.substring(0, 2 + 2 * conditions)).append(';');
        for (int i = 0; i < 1 << conditions; i++) {
            for (int c = 0; c < conditions; c++) {
                text.append((i >> c & 1) == 1 ? 'Y' : 'N');
            }
            boolean isOdd = Integer.bitCount(i) % 2 == 1;
            text.append(isOdd != (i == turned) ? "do o;" : "do e;");
        }
        return text.toString();
    }

    /** BLANKS and DIFFERENCES of these tables are 0 everywhere, so their conditions are tested in their order. */
    private static void placesAround256() {
        String s = "the place, two bytes, the higher first";
        // 63 tests and 64 leaves stand where the first condition holds: 3 + 3 * 63 + 64 = 256.
        RuleTables x = Check.table(parity(7, NONE));
        code(s, x, 0, 0, 1, 0);
        Check.due(s, 509, () -> x.count(5));
        Check.due(s + ", run to it", 1, () -> x.run(62, false));
        Check.due(s + ", run to it", 0, () -> x.run(0, false));
        Check.due(s + ", all are tested", 7, () -> x.run(0, true));
        // The second test has 62 tests and 63 leaves behind it: 6 + 3 * 62 + 63 = 255.
        RuleTables y = Check.table(parity(8, 127));
        code(s, y, 0, 0, 1, 252, 1, 0, 255);
        Check.due(s + ", run over it", 1, () -> y.run(253, false));
        Check.due(s + ", one less is tested", 7, () -> y.run(255, true));
        Check.due(s + ", the turned case", 0, () -> y.run(127, false));
        // With all of them the first place is 512, the second 6 + 3 * 63 + 64 = 259.
        RuleTables z = Check.table(parity(8, NONE));
        code(s, z, 0, 0, 2, 0, 1, 1, 3);
        Check.due(s, 1021, () -> z.count(5));
        Check.due(s + ", the most tests", 8, () -> z.count(6));
    }

    private static void leavesInCode() {
        String s = "A LEAF: one byte, 128 more than its action";
        code(s, Check.table("if a;-do x;"), 0, 128);
        StringBuilder text = new StringBuilder("if a,b,c,d,e,f;");
        for (int i = 0; i < 64; i++) {
            for (int c = 0; c < 6; c++) {
                text.append((i >> c & 1) == 1 ? 'Y' : 'N');
            }
            text.append("do a").append(i).append(';');
        }
        RuleTables x = Check.table(text.toString());
        Check.due(s + ", 64 actions", 4 * 63 + 1, () -> x.count(5));
        code(s + ", the action of case 63", x, 18, 191);
        code(s + ", the action of case 31", x, 19, 159);
        code(s + ", the action of case 0", x, 252, 128);
        Check.due(s + ": run(63, false)", 63, () -> x.run(63, false));
        Check.due(s + ": run(0, false)", 0, () -> x.run(0, false));
    }

    private static void byteFrom128EndsIt() {
        String s = "a byte from 128 on ends it";
        RuleTables x = Check.table("if a;-do x;");
        Check.due(s + ", at place 0", 0, () -> x.run(1, true));
        Check.due(s + ", at place 0", 0, () -> x.run(1, false));
        RuleTables y = Check.table("if a,b;N-do p;YYdo q;YNdo p;");
        int[] actions = {0, 0, 0, 1};
        int[] tests = {1, 2, 1, 2};
        for (int i = 0; i < 4; i++) {
            int theCase = i;
            Check.due(s + ": run(" + i + ", false)", actions[i], () -> y.run(theCase, false));
            Check.due(s + ": run(" + i + ", true)", tests[i], () -> y.run(theCase, true));
        }
    }
}
