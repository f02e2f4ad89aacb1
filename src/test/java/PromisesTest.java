/** The promises 1 to 15, one after the other: ordinary inputs, edges, wrong inputs. */
public final class PromisesTest {
    private static final int NONE = RuleTables.NONE;
    private static final int MIN = Integer.MIN_VALUE;
    private static final int MAX = Integer.MAX_VALUE;

    /** a tested first, then b where a does not hold: nodes 0 a, 1 leaf x, 2 b, 3 leaf y, 4 leaf x. */
    private static final String SOUND = "if a, bc; Y- do x; NY do yes; NN do x;";
    private static final String CONTRARY = "if a,b,c;Y--do x;-Y-do x;NN-do y;--Ydo x;";
    private static final String GAPPED = "if a,b,c;Y--do x;-Y-do x;NNYdo y;";

    public static void main(String[] args) {
        promise1New();
        promise2Type();
        promise3Keep();
        promise4Read();
        promise4Verdicts();
        promise5Fault();
        faultsOfTheHead();
        faultsOfRules();
        faultsOfNumbers();
        whatMayStand();
        promise6Amiss();
        promise7Count();
        promise8Rule();
        promise9Name();
        promise10Meets();
        promise11Cases();
        promise12Node();
        promise12Choice();
        promise13Code();
        promise14Run();
        promise15Tests();
        throwingChangesNothing();
        Check.end();
    }

    private static void promise1New() {
        RuleTables x = new RuleTables();
        for (int what = 0; what < 8; what++) {
            int w = what;
            Check.due("1 count(" + what + ")", 0, () -> x.count(w));
        }
        Check.due("1 fault()", 0, () -> x.fault());
        Check.dueThrow("1 keep(1)", Check.ARGUMENT, () -> x.keep(1));
        noTable("1", x);
        RuleTables y = Check.table(SOUND);
        Check.due("1 objects have tapes of their own", 0, () -> x.count(7));
        Check.due("1 objects have tables of their own", 0, () -> x.count(0));
        Check.due("1 and keep them", 2, () -> y.count(0));
    }

    private static void noTable(String when, RuleTables x) {
        for (int i : new int[] {0, NONE, -2, 3, MAX, MIN}) {
            Check.dueThrow(when + " amiss without a table", Check.STATE, () -> x.amiss(i));
            Check.dueThrow(when + " meets without a table", Check.STATE, () -> x.meets(i));
            Check.dueThrow(when + " cases without a table", Check.STATE, () -> x.cases(i));
            Check.dueThrow(when + " rule without a table", Check.INDEX, () -> x.rule(i, NONE));
            Check.dueThrow(when + " name without a table", Check.INDEX, () -> x.name(true, i, NONE));
            Check.dueThrow(when + " name without a table", Check.INDEX, () -> x.name(false, i, NONE));
        }
        noTree(when, x);
    }

    private static void noTree(String when, RuleTables x) {
        for (int i : new int[] {0, NONE, -2, 3, MAX, MIN}) {
            Check.dueThrow(when + " node without a tree", Check.STATE, () -> x.node(i, 0));
            Check.dueThrow(when + " node without a tree", Check.STATE, () -> x.node(0, i));
            Check.dueThrow(when + " code without a tree", Check.STATE, () -> x.code(i));
            Check.dueThrow(when + " run without a tree", Check.STATE, () -> x.run(i, true));
            Check.dueThrow(when + " run without a tree", Check.STATE, () -> x.run(i, false));
        }
        Check.dueThrow(when + " tests without a tree", Check.STATE, () -> x.tests());
    }

    private static void promise2Type() {
        RuleTables x = new RuleTables();
        for (int n : new int[] {0, -1, 9, MIN, MAX}) {
            Check.dueThrow("2 type(1, " + n + ")", Check.ARGUMENT, () -> x.type(1, n));
        }
        Check.due("2 nothing came", 0, () -> x.count(7));
        Check.due("2 one byte", 1, () -> x.type('i', 1));
        Check.due("2 the bytes above do not matter", 2, () -> x.type(0x1122334455667766L, 1));
        Check.due("2 a blank and a name", 4, () -> x.type(0x2061L, 2));
        Check.due("2 highest first", 12, () -> x.type(Check.packed(";Ydo xy;", 0, 8), 8));
        Check.due("2 three more", 15, () -> x.type(-1L << 24 | Check.packed("Ndo", 0, 3), 3));
        Check.due("2 five more", 20, () -> x.type(Check.packed(" zyx;", 0, 5), 5));
        Check.due("2 the text is read", RuleTables.SOUND, () -> x.read());
        Check.due("2 its first action", 'y', () -> x.name(true, 0, 1));
        Check.due("2 its second action", 'z', () -> x.name(true, 1, 0));
        Check.due("2 its last byte", 'x', () -> x.name(true, 1, 2));
        atMost8000Bytes();
    }

    /** More than 512 calls are needed for it: what is due there is free, but the class does it. */
    private static void atMost8000Bytes() {
        RuleTables x = new RuleTables();
        for (int i = 0; i < 999; i++) {
            x.type(0x2020202020202020L, 8);
        }
        Check.due("2 7993 bytes", 7993, () -> x.type(32, 1));
        Check.dueThrow("2 8001 bytes", Check.UNSUPPORTED, () -> x.type(0, 8));
        Check.dueThrow("2 the wrong n is told first", Check.ARGUMENT, () -> x.type(0, 9));
        Check.due("2 8000 bytes", 8000, () -> x.type(0x20202020202020L, 7));
        Check.dueThrow("2 one more", Check.UNSUPPORTED, () -> x.type(0, 1));
        Check.due("2 all of them", 8000, () -> x.count(7));
        Check.due("2 all are blank", -8001, () -> x.read());
        Check.due("2 one again", 1, () -> x.type(0, 1));
    }

    private static void promise3Keep() {
        RuleTables x = new RuleTables();
        x.keep(0);
        Check.type(x, "if a;-do xyz; and more");
        Check.dueThrow("3 keep(23)", Check.ARGUMENT, () -> x.keep(23));
        Check.dueThrow("3 keep(-1)", Check.ARGUMENT, () -> x.keep(-1));
        Check.dueThrow("3 keep(MIN)", Check.ARGUMENT, () -> x.keep(MIN));
        Check.dueThrow("3 keep(MAX)", Check.ARGUMENT, () -> x.keep(MAX));
        Check.due("3 all are there", 22, () -> x.count(7));
        x.keep(22);
        Check.due("3 all are kept", 22, () -> x.count(7));
        x.keep(10);
        Check.due("3 ten are kept", 10, () -> x.count(7));
        Check.dueThrow("3 keep(11)", Check.ARGUMENT, () -> x.keep(11));
        Check.due("3 new bytes come behind", 11, () -> x.type(';', 1));
        Check.due("3 the text is read", RuleTables.SOUND, () -> x.read());
        Check.due("3 its action", 1, () -> x.name(true, 0, NONE));
        Check.type(x, "if");
        x.keep(0);
        Check.due("3 none is kept", -1, () -> x.read());
        Check.due("3 the table stays", 1, () -> x.count(0));
    }

    private static void promise4Read() {
        RuleTables x = new RuleTables();
        Check.due("4 an empty tape", -1, () -> x.read());
        noTable("4 after a fault", x);
        Check.due("4 sound", RuleTables.SOUND, () -> Check.read(x, SOUND));
        Check.due("4 the tape is empty", 0, () -> x.count(7));
        Check.due("4 a fault", -17, () -> Check.read(x, "if q,r,s;NNNdo z"));
        Check.due("4 its code", 1, () -> x.fault());
        Check.due("4 the tape is empty with a fault, too", 0, () -> x.count(7));
        Check.due("4 the conditions stay", 2, () -> x.count(0));
        Check.due("4 the rules stay", 3, () -> x.count(1));
        Check.due("4 the actions stay", 2, () -> x.count(2));
        Check.due("4 the nodes stay", 5, () -> x.count(3));
        Check.due("4 the names stay", 'a', () -> x.name(false, 0, 0));
        Check.due("4 the marks stay", 1, () -> x.rule(0, 0));
        Check.due("4 the code stays", 129, () -> x.code(7));
        Check.due("4 the tests stay", 6, () -> x.tests());
        Check.due("4 amiss stays", NONE, () -> x.amiss(2));
        Check.due("4 a contradiction", RuleTables.CONTRADICTION, () -> Check.read(x, CONTRARY));
        noTree("4 after a contradiction", x);
        Check.due("4 a fault", -1, () -> x.read());
        Check.due("4 the contradiction stays", 3, () -> x.amiss(1));
        Check.due("4 a second fault", -3, () -> Check.read(x, "if"));
        Check.due("4 the contradiction stays again", 3, () -> x.amiss(1));
        Check.due("4 a gap", RuleTables.GAP, () -> Check.read(x, GAPPED));
        noTree("4 after a gap", x);
        Check.due("4 sound again", RuleTables.SOUND, () -> Check.read(x, "if b; - do one;"));
        Check.due("4 one condition", 1, () -> x.count(0));
        Check.due("4 one action", 1, () -> x.count(2));
        Check.due("4 one node", 1, () -> x.count(3));
    }

    private static void verdict(int due, String text) {
        Check.verdict("4", due, text);
    }

    private static void promise4Verdicts() {
        verdict(RuleTables.SOUND, "if a;Ydo x;Ndo x;");
        verdict(RuleTables.SOUND, "if a;-do x;-do x;");
        verdict(RuleTables.CONTRADICTION, "if a;-do x;-do y;");
        verdict(RuleTables.CONTRADICTION, "if a;Ydo x;-do y;");
        verdict(RuleTables.GAP, "if a;Ydo x;");
        verdict(RuleTables.GAP, "if a;Ndo x;");
        verdict(RuleTables.CONTRADICTION, "if a,b;Y-do x;-Ydo y;");
        verdict(RuleTables.GAP, "if a,b;Y-do x;-Ydo x;");
        verdict(RuleTables.SOUND, "if a,b;Y-do x;-Ydo x;NNdo y;");
        verdict(RuleTables.GAP, "if a,b;YYdo x;YNdo x;NYdo x;");
        verdict(RuleTables.SOUND, "if a,b,c;YY-do a;-NYdo b;N-Ndo c;YNNdo d;NYYdo e;");
        verdict(RuleTables.GAP, "if a,b,c;YY-do a;-NYdo b;N-Ndo c;YNNdo d;");
    }

    private static void promise5Fault() {
        RuleTables x = new RuleTables();
        Check.due("5 before a read", 0, () -> x.fault());
        x.read();
        Check.due("5 an empty tape", 1, () -> x.fault());
        Check.due("5 it is told again", 1, () -> x.fault());
        Check.read(x, "if a,a;Ydo x;");
        Check.due("5 a name twice", 2, () -> x.fault());
        Check.read(x, SOUND);
        Check.due("5 none", 0, () -> x.fault());
        Check.read(x, "if a,b,c,d,e,f,g,h,i,j,k,l,m,n,o,p,q;");
        Check.due("5 too many conditions", 3, () -> x.fault());
        Check.read(x, CONTRARY);
        Check.due("5 a contradiction is none", 0, () -> x.fault());
        Check.read(x, "?");
        Check.read(x, GAPPED);
        Check.due("5 a gap is none", 0, () -> x.fault());
    }

    private static void faulty(int code, int place, String text) {
        Check.faulty("4 and 5", code, place, text);
    }

    private static void faultsOfTheHead() {
        faulty(1, 3, " \t\n");
        faulty(1, 0, "i");
        faulty(1, 0, "ifa;-do x;");
        faulty(1, 0, "i f a;-do x;");
        faulty(1, 0, "If a;-do x;");
        faulty(1, 2, "\r abcdefghijk a;");
        faulty(1, 2, "if");
        faulty(1, 4, "if  ");
        faulty(1, 2, "if;-do x;");
        faulty(1, 2, "if,a;-do x;");
        faulty(1, 3, "if 1a;-do x;");
        faulty(1, 3, "if A;-do x;");
        faulty(1, 4, "if aB;-do x;");
        faulty(1, 5, "if a b;--do x;");
        faulty(1, 5, "if a,,b;--do x;");
        faulty(1, 5, "if a,");
        faulty(1, 4, "if a:-do x;");
        faulty(1, 4, "if a-do x;");
        faulty(1, 4, "if a_b;-do x;");
        faulty(1, 3, "if abcdefghij0;-do x;");
        faulty(1, 13, "if abcdefghij");
        faulty(1, 3, "if \u00e1;-do x;");
        faulty(1, 4, "if a\u0080;-do x;");
        faulty(1, 4, "if a\u000b;-do x;");
        faulty(1, 4, "if a\u0000;-do x;");
        faulty(1, 3, "if {;-do x;");
        faulty(1, 3, "if `;-do x;");
        faulty(1, 4, "if a/;-do x;");
        faulty(2, 5, "if a,a;--do x;");
        faulty(2, 9, "if ab,c, ab");
        faulty(2, 17, "if abcdefghij,b, abcdefghij;");
        faulty(1, 6, "if a,b");
        // A name that is too long is told, not that it would be a known one when cut.
        faulty(1, 14, "if abcdefghij,abcdefghijk;");
    }

    private static void faultsOfRules() {
        faulty(1, 5, "if a;");
        faulty(1, 6, "if a; ");
        faulty(1, 5, "if a;do x;");
        faulty(1, 5, "if a;;");
        faulty(1, 5, "if a;y do x;");
        faulty(1, 5, "if a;\u00d9do x;");
        faulty(1, 6, "if a;Y");
        faulty(1, 6, "if a;YYdo x;");
        faulty(1, 8, "if a,b;Ydo x;");
        faulty(1, 9, "if a,b;--- do x;");
        faulty(1, 6, "if a;Yd");
        faulty(1, 6, "if a;Yd o x;");
        faulty(1, 6, "if a;YDo x;");
        faulty(1, 6, "if a;Ydox;");
        faulty(1, 6, "if a;Yif x;");
        faulty(1, 6, "if a;Ydodododododo x;");
        faulty(1, 6, "if a;Y;");
        faulty(1, 8, "if a;Ydo");
        faulty(1, 8, "if a;Ydo;");
        faulty(1, 9, "if a;Ydo X;");
        faulty(1, 9, "if a;Ydo 9;");
        faulty(1, 9, "if a;Ydo abcdefghijk;");
        faulty(1, 10, "if a;Ydo x");
        faulty(1, 11, "if a;Ydo x ");
        faulty(1, 11, "if a;Ydo x y;");
        faulty(1, 10, "if a;Ydo x,y;");
        faulty(1, 10, "if a;Ydo xY;");
        faulty(1, 11, "if a;Ydo x;x");
        faulty(1, 12, "if a;Ydo x; ;");
        faulty(1, 12, "if a;Ydo x;N");
        // The first fault from the left, whatever comes behind it.
        faulty(1, 5, "if a;Zdo abcdefghijk");
        faulty(2, 5, "if a,a;Zdo");
    }

    private static String rules(int n, boolean actionsDiffer) {
        StringBuilder text = new StringBuilder("if a;");
        for (int r = 0; r < n; r++) {
            text.append("-do a").append(actionsDiffer ? "" + r : "").append(';');
        }
        return text.toString();
    }

    private static void faultsOfNumbers() {
        String sixteen = "if a,b,c,d,e,f,g,h,i,j,k,l,m,n,o,p";
        String marks = "-".repeat(16);
        verdict(RuleTables.SOUND, sixteen + ";" + marks + "do x;");
        faulty(3, sixteen.length() + 2, sixteen + ", q;" + marks + "-do x;");
        faulty(2, sixteen.length() + 2, sixteen + ", p;" + marks + "-do x;");
        faulty(1, sixteen.length() + 2, sixteen + ", abcdefghijk;" + marks + "-do x;");
        faulty(1, sixteen.length() + 1, sixteen + ",;" + marks + "-do x;");
        String most = rules(256, false);
        verdict(RuleTables.SOUND, most);
        verdict(RuleTables.SOUND, most + " ");
        faulty(3, most.length() + 1, most + " Ydo a;");
        faulty(3, most.length(), most + "-");
        faulty(3, most.length(), most + "N?");
        faulty(1, most.length() + 1, most + " do a;");
        faulty(1, most.length(), most + ";");
        Check.due("7 256 rules", 256, () -> Check.table(most).count(1));
        String actions = rules(64, true);
        verdict(RuleTables.CONTRADICTION, actions);
        verdict(RuleTables.CONTRADICTION, actions + "Ydo a63;");
        faulty(3, actions.length() + 5, actions + "Ydo  a64;");
        faulty(3, actions.length() + 4, actions + "Ydo x");
        faulty(1, actions.length() + 4, actions + "Ydo abcdefghijk;");
        faulty(1, actions.length() + 7, actions + "Ydo a63");
        Check.due("7 64 actions", 64, () -> Check.table(actions).count(2));
    }

    private static void whatMayStand() {
        verdict(RuleTables.SOUND, "if a;-do x;");
        verdict(RuleTables.SOUND, "\r\n\t if\ra\n;\t-\tdo\nx\r;\n\r\t ");
        verdict(RuleTables.SOUND, "if a , b ;Y Y do x ; - Ndo x ;N\nYdo x;");
        verdict(RuleTables.SOUND, "if if,do;--do if;--do if;");
        verdict(RuleTables.SOUND, "if do;Ydo do;Ndo if;");
        verdict(RuleTables.SOUND, "if abcdefghij,abcdefghi0;--do z123456789;");
        RuleTables x = Check.table("if do,if;Y-do do;N-do if;");
        Check.due("9 a condition named do", 'd', () -> x.name(false, 0, 0));
        Check.due("9 a condition named if", 'f', () -> x.name(false, 1, 1));
        Check.due("9 an action named do", 'o', () -> x.name(true, 0, 1));
        Check.due("9 an action as a condition", 'i', () -> x.name(true, 1, 0));
    }

    private static void amiss(String text, int i, int j, int theCase) {
        RuleTables x = Check.table(text);
        Check.due("6 amiss(0) of " + text, i, () -> x.amiss(0));
        Check.due("6 amiss(1) of " + text, j, () -> x.amiss(1));
        Check.due("6 amiss(2) of " + text, theCase, () -> x.amiss(2));
        for (int what : new int[] {-1, 3, MAX, MIN}) {
            Check.dueThrow("6 amiss(" + what + ")", Check.INDEX, () -> x.amiss(what));
        }
    }

    private static void promise6Amiss() {
        amiss(SOUND, NONE, NONE, NONE);
        amiss(CONTRARY, 2, 3, 4);
        amiss(GAPPED, NONE, NONE, 0);
        // The least i, of these the least j.
        amiss("if a,b;YYdo x;NNdo x;-Ndo y;N-do y;Y-do y;", 0, 4, 3);
        amiss("if a,b;NYdo x;NNdo y;-Ndo y;N-do z;-Ydo z;", 0, 3, 2);
        amiss("if a,b;NYdo x;NNdo y;-Ndo y;N-do x;-Ydo z;", 0, 4, 2);
        // A contradiction is told before a gap that is less.
        amiss("if a,b;YYdo x;YYdo y;", 0, 1, 3);
        amiss("if a,b,c,d;--Y-do x;---Ydo y;", 0, 1, 12);
        amiss("if a,b,c,d;-NY-do x;N--Ydo y;", 0, 1, 12);
        // Rules with the same action do not contradict.
        amiss("if a;-do x;-do x;Ydo x;", NONE, NONE, NONE);
        amiss("if a,b,c;N--do x;-N-do x;--Ndo x;", NONE, NONE, 7);
        amiss("if a,b,c;N--do x;Y-Ydo y;", NONE, NONE, 1);
        amiss("if a,b,c;--Ndo x;N-Ydo y;", NONE, NONE, 5);
        amiss("if a,b,c;-N-do x;NY-do y;", NONE, NONE, 3);
        amiss("if a,b,c;NN-do x;Y--do y;", NONE, NONE, 2);
    }

    private static void counts(String text, int... due) {
        RuleTables x = Check.table(text);
        for (int what = 0; what < due.length; what++) {
            int w = what;
            Check.due("7 count(" + what + ") of " + text, due[what], () -> x.count(w));
        }
    }

    private static void promise7Count() {
        counts(SOUND, 2, 3, 2, 5, 3, 9, 2, 0);
        counts(CONTRARY, 3, 4, 2, 0, 0, 0, 0, 0);
        counts(GAPPED, 3, 3, 2, 0, 0, 0, 0, 0);
        counts("if a,b,c; --- do only;", 3, 1, 1, 1, 1, 1, 0, 0);
        counts("if a;Ydo x;Ndo y;", 1, 2, 2, 3, 2, 5, 1, 0);
        counts("if a,b,c;Y--do x;NY-do y;NNYdo z;NNNdo x;", 3, 4, 3, 7, 4, 13, 3, 0);
        RuleTables x = Check.table(SOUND);
        Check.type(x, "if a");
        Check.due("7 bytes of the tape", 4, () -> x.count(7));
        Check.due("7 the table stays", 3, () -> x.count(1));
        RuleTables y = new RuleTables();
        Check.type(y, SOUND);
        Check.due("7 bytes of the tape without a table", SOUND.length(), () -> y.count(7));
        for (int what : new int[] {-1, 8, MAX, MIN}) {
            Check.dueThrow("7 count(" + what + ")", Check.INDEX, () -> x.count(what));
            Check.dueThrow("7 count(" + what + ") without a table", Check.INDEX, () -> y.count(what));
        }
    }

    private static void promise8Rule() {
        RuleTables x = Check.table("if a,b,c;YN-do p;-YNdo q;N-Ydo p;");
        int[][] due = {{0, 1, 0, 2}, {1, 2, 1, 0}, {0, 0, 2, 1}};
        for (int r = 0; r < 3; r++) {
            for (int c = -1; c < 3; c++) {
                int rule = r;
                int condition = c;
                Check.due("8 rule(" + r + ", " + c + ")", due[r][c + 1], () -> x.rule(rule, condition));
            }
        }
        for (int wrong : new int[] {-2, 3, MAX, MIN}) {
            Check.dueThrow("8 rule(" + wrong + ", 0)", Check.INDEX, () -> x.rule(wrong, 0));
            Check.dueThrow("8 rule(" + wrong + ", NONE)", Check.INDEX, () -> x.rule(wrong, NONE));
            Check.dueThrow("8 rule(0, " + wrong + ")", Check.INDEX, () -> x.rule(0, wrong));
        }
        Check.dueThrow("8 rule(NONE, 0)", Check.INDEX, () -> x.rule(NONE, 0));
        RuleTables y = Check.table("if a,b,c,d,e,f,g,h,i,j,k,l,m,n,o,p;---------------Ydo x;---------------Ndo x;");
        Check.due("8 the 16th condition", 1, () -> y.rule(0, 15));
        Check.due("8 the 16th condition", 0, () -> y.rule(1, 15));
        Check.due("8 the 15th condition", 2, () -> y.rule(1, 14));
        Check.dueThrow("8 the 17th condition", Check.INDEX, () -> y.rule(1, 16));
        // A smaller table behind a bigger one.
        Check.read(x, "if z;-do p;");
        Check.dueThrow("8 no rule of the table before", Check.INDEX, () -> x.rule(1, 0));
        Check.dueThrow("8 no condition of the table before", Check.INDEX, () -> x.rule(0, 1));
    }

    private static void named(RuleTables x, boolean action, int k, String due) {
        String call = "9 name(" + action + ", " + k + ", ";
        Check.due(call + "NONE)", due.length(), () -> x.name(action, k, NONE));
        for (int i = 0; i < due.length(); i++) {
            int at = i;
            Check.due(call + i + ")", due.charAt(i), () -> x.name(action, k, at));
        }
        for (int i : new int[] {-2, due.length(), 10, MAX, MIN}) {
            Check.dueThrow(call + i + ")", Check.INDEX, () -> x.name(action, k, i));
        }
    }

    private static void promise9Name() {
        RuleTables x = Check.table("if abcdefghij, b2 ,z;Y--do yes;N--do abcdefghij;-Y-do yes;---do n0 ;");
        named(x, false, 0, "abcdefghij");
        named(x, false, 1, "b2");
        named(x, false, 2, "z");
        named(x, true, 0, "yes");
        named(x, true, 1, "abcdefghij");
        named(x, true, 2, "n0");
        for (int k : new int[] {-1, 3, MAX, MIN}) {
            Check.dueThrow("9 no such condition", Check.INDEX, () -> x.name(false, k, 0));
            Check.dueThrow("9 no such action", Check.INDEX, () -> x.name(true, k, NONE));
        }
        Check.read(x, "if q,qq;--do a;");
        named(x, false, 0, "q");
        named(x, false, 1, "qq");
        named(x, true, 0, "a");
        Check.dueThrow("9 no action of the table before", Check.INDEX, () -> x.name(true, 1, 0));
    }

    private static void promise10Meets() {
        RuleTables x = Check.table("if a,b,c;YN-do p;-YYdo q;Y--do p;");
        int[] due = {NONE, 0, NONE, 2, NONE, 0, 1, 1};
        for (int i = 0; i < 8; i++) {
            int theCase = i;
            Check.due("10 meets(" + i + ")", due[i], () -> x.meets(theCase));
        }
        for (int wrong : new int[] {-1, 8, MAX, MIN}) {
            Check.dueThrow("10 meets(" + wrong + ")", Check.INDEX, () -> x.meets(wrong));
        }
        RuleTables y = Check.table("if a,b,c,d,e,f,g,h,i,j,k,l,m,n,o,p;---------------Ydo x;");
        Check.due("10 meets(32767)", NONE, () -> y.meets(32767));
        Check.due("10 meets(32768)", 0, () -> y.meets(32768));
        Check.due("10 meets(65535)", 0, () -> y.meets(65535));
        Check.dueThrow("10 meets(65536)", Check.INDEX, () -> y.meets(65536));
    }

    private static void promise11Cases() {
        // Cases that several rules meet count once for each action, and for none only if no rule meets them.
        RuleTables x = Check.table("if a,b,c;Y--do x;YY-do x;-Y-do y;--Ydo z;Y-Ydo z;");
        Check.due("11 cases(0)", 4, () -> x.cases(0));
        Check.due("11 cases(1)", 4, () -> x.cases(1));
        Check.due("11 cases(2)", 4, () -> x.cases(2));
        Check.due("11 cases(NONE)", 1, () -> x.cases(NONE));
        for (int wrong : new int[] {-2, 3, MAX, MIN}) {
            Check.dueThrow("11 cases(" + wrong + ")", Check.INDEX, () -> x.cases(wrong));
        }
        RuleTables y = Check.table(SOUND);
        Check.due("11 cases(0) of a sound table", 3, () -> y.cases(0));
        Check.due("11 cases(1) of a sound table", 1, () -> y.cases(1));
        Check.due("11 cases(NONE) of a sound table", 0, () -> y.cases(NONE));
        Check.dueThrow("11 cases(2) of a sound table", Check.INDEX, () -> y.cases(2));
        RuleTables z = Check.table("if a,b,c,d,e,f,g,h,i,j,k,l,m,n,o,p;YYYYYYYYYYYYYYYYdo x;N---------------do y;");
        Check.due("11 one case", 1, () -> z.cases(0));
        Check.due("11 half of all cases", 32768, () -> z.cases(1));
        Check.due("11 the others", 32767, () -> z.cases(NONE));
    }

    private static void nodes(String text, int[]... due) {
        RuleTables x = Check.table(text);
        Check.due("7 nodes of " + text, due.length, () -> x.count(3));
        for (int k = 0; k < due.length; k++) {
            for (int what = 0; what < 4; what++) {
                int node = k;
                int w = what;
                Check.due("12 node(" + k + ", " + what + ") of " + text, due[k][what], () -> x.node(node, w));
            }
        }
        for (int wrong : new int[] {-1, due.length, MAX, MIN}) {
            Check.dueThrow("12 node(" + wrong + ", 0)", Check.INDEX, () -> x.node(wrong, 0));
        }
        for (int wrong : new int[] {-1, 4, MAX, MIN}) {
            Check.dueThrow("12 node(0, " + wrong + ")", Check.INDEX, () -> x.node(0, wrong));
        }
    }

    private static int[] test(int condition, int holds, int not) {
        return new int[] {condition, holds, not, NONE};
    }

    private static int[] leaf(int action) {
        return new int[] {NONE, NONE, NONE, action};
    }

    private static void promise12Node() {
        nodes(SOUND, test(0, 1, 2), leaf(0), test(1, 3, 4), leaf(1), leaf(0));
        nodes("if a,b;--do x;Y-do x;", leaf(0));
        nodes("if a;Ndo x;Ydo y;", test(0, 1, 2), leaf(1), leaf(0));
        nodes("if a,b,c;NN-do n;Y-Ydo y;Y-Ndo z;NY-do m;",
                test(0, 1, 4), test(2, 2, 3), leaf(1), leaf(2), test(1, 5, 6), leaf(3), leaf(0));
    }

    private static void firstTest(int condition, String text) {
        RuleTables x = Check.table(text);
        Check.due("12 the first test of " + text, condition, () -> x.node(0, 0));
    }

    private static void promise12Choice() {
        // The least BLANKS.
        firstTest(0, "if a,b,c;Y--do x;NYYdo y;NNYdo z;N-Ndo x;");
        firstTest(1, "if a,b,c;-Y-do x;YNYdo y;NNYdo z;-NNdo x;");
        firstTest(2, "if a,b,c;--Ydo x;YYNdo y;NYNdo z;-NNdo x;");
        // BLANKS alike: a has DIFFERENCE 0, b has 2 from a rule that stands twice.
        firstTest(1, "if a,b;YYdo x;NYdo y;YNdo z;NNdo u;YYdo x;NYdo y;");
        // Of a greater sum of N the sign does not count.
        firstTest(1, "if a,b;YYdo x;NYdo y;YNdo z;NNdo u;YNdo z;NNdo u;");
        // All alike: the least number.
        firstTest(0, "if a,b;YYdo x;NYdo y;YNdo z;NNdo u;");
        // BLANKS are weights, not numbers of rules: one rule with - in a weighs more than two with - in b.
        firstTest(1, "if a,b,c,d;-Y--do x;Y-YYdo x;N-YYdo x;YNN-do y;NNN-do y;YNYNdo y;NNYNdo z;");
        firstTest(0, "if a,b,c;YY-do p;-NYdo q;N-Ndo p;YNNdo p;NYYdo q;");
    }

    private static void promise13Code() {
        RuleTables x = Check.table(SOUND);
        int[] due = {0, 0, 4, 128, 1, 0, 8, 129, 128};
        for (int i = 0; i < due.length; i++) {
            int at = i;
            Check.due("13 code(" + i + ")", due[i], () -> x.code(at));
        }
        for (int wrong : new int[] {-1, due.length, MAX, MIN}) {
            Check.dueThrow("13 code(" + wrong + ")", Check.INDEX, () -> x.code(wrong));
        }
        RuleTables y = Check.table("if a;-do x;");
        Check.due("13 one leaf", 128, () -> y.code(0));
        Check.dueThrow("13 and no more", Check.INDEX, () -> y.code(1));
    }

    private static void promise14Run() {
        RuleTables x = Check.table(SOUND);
        int[] actions = {0, 0, 1, 0};
        int[] tests = {2, 1, 2, 1};
        for (int i = 0; i < 4; i++) {
            int theCase = i;
            Check.due("14 run(" + i + ", false)", actions[i], () -> x.run(theCase, false));
            Check.due("14 run(" + i + ", true)", tests[i], () -> x.run(theCase, true));
        }
        for (int wrong : new int[] {-1, 4, MAX, MIN}) {
            Check.dueThrow("14 run(" + wrong + ", false)", Check.INDEX, () -> x.run(wrong, false));
            Check.dueThrow("14 run(" + wrong + ", true)", Check.INDEX, () -> x.run(wrong, true));
        }
        RuleTables y = Check.table("if a;-do x;");
        Check.due("14 no test", 0, () -> y.run(1, true));
        Check.due("14 one action", 0, () -> y.run(0, false));
        // All 16 conditions are tested on the longest way.
        StringBuilder text = new StringBuilder("if a,b,c,d,e,f,g,h,i,j,k,l,m,n,o,p;");
        for (int c = 0; c < 16; c++) {
            text.append("Y".repeat(c)).append('N').append("-".repeat(15 - c)).append("do a").append(c).append(';');
        }
        RuleTables z = Check.table(text.append("YYYYYYYYYYYYYYYYdo last;").toString());
        Check.due("14 the last case", 16, () -> z.run(65535, false));
        Check.due("14 its tests", 16, () -> z.run(65535, true));
        Check.due("14 the case before", 15, () -> z.run(32767, false));
        Check.due("14 its tests", 16, () -> z.run(32767, true));
        Check.due("14 a short way", 1, () -> z.run(65534, true));
        Check.due("7 the most tests", 16, () -> z.count(6));
        Check.due("15 of all cases", 131070, () -> z.tests());
        Check.dueThrow("14 run(65536, true)", Check.INDEX, () -> z.run(65536, true));
    }

    private static void promise15Tests() {
        Check.due("15 " + SOUND, 6, () -> Check.table(SOUND).tests());
        Check.due("15 one leaf", 0, () -> Check.table("if a,b;--do x;").tests());
        Check.due("15 one test", 2, () -> Check.table("if a;Ydo x;Ndo y;").tests());
        Check.due("15 one test, two conditions", 4, () -> Check.table("if a,b;-Ydo x;-Ndo y;").tests());
        Check.due("15 three rows", 18, () -> Check.table("if a,b,c; YY- do p; -NY do q; N-N do p; YNN do p; NYY do q;").tests());
        Check.dueThrow("15 a gap", Check.STATE, () -> Check.table(GAPPED).tests());
        Check.dueThrow("15 a contradiction", Check.STATE, () -> Check.table(CONTRARY).tests());
    }

    private static void throwingChangesNothing() {
        RuleTables x = Check.table(SOUND);
        Check.type(x, "if z;-do");
        Check.dueThrow("type", Check.ARGUMENT, () -> x.type(-1, 0));
        Check.dueThrow("keep", Check.ARGUMENT, () -> x.keep(9));
        Check.dueThrow("amiss", Check.INDEX, () -> x.amiss(3));
        Check.dueThrow("count", Check.INDEX, () -> x.count(8));
        Check.dueThrow("rule", Check.INDEX, () -> x.rule(3, 0));
        Check.dueThrow("name", Check.INDEX, () -> x.name(true, 2, 0));
        Check.dueThrow("meets", Check.INDEX, () -> x.meets(4));
        Check.dueThrow("cases", Check.INDEX, () -> x.cases(2));
        Check.dueThrow("node", Check.INDEX, () -> x.node(5, 0));
        Check.dueThrow("code", Check.INDEX, () -> x.code(9));
        Check.dueThrow("run", Check.INDEX, () -> x.run(4, true));
        Check.due("the tape stays", 8, () -> x.count(7));
        Check.due("the nodes stay", 5, () -> x.count(3));
        Check.due("the tests stay", 6, () -> x.tests());
        Check.due("more is typed", 11, () -> x.type(Check.packed(" q;", 0, 3), 3));
        Check.due("the tape is whole", RuleTables.SOUND, () -> x.read());
    }
}
