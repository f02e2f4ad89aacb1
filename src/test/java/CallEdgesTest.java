/** The promises 1 to 15: for each sentence that names an edge, a refused call or what stays, a test of its own. */
public final class CallEdgesTest {
    private static final int NONE = RuleTables.NONE;
    private static final int MIN = Integer.MIN_VALUE;
    private static final int MAX = Integer.MAX_VALUE;
    private static final String SIXTEEN = "if a,b,c,d,e,f,g,h,i,j,k,l,m,n,o,p;";

    /** Texts of each verdict, small and big in turns, with and without a tree. */
    private static final String[] TEXTS = {
        "if a, bc; Y- do x; NY do yes; NN do x;",
        "if a,b,c;Y--do x;-Y-do x;NN-do y;--Ydo x;",
        "if a,b,c;Y--do p;NY-do q0;NNYdo r;",
        Formula.table("|&&vv&&&vvvv&|&vv&vv|&v|v&vvv"),
        "if only;-do it;",
        SIXTEEN + "YN" + "-".repeat(14) + "do abcdefghij;Y" + "-".repeat(14) + "Ydo z;",
        SIXTEEN + "N".repeat(16) + "do none;",
        "if d,c,b,a;YYYYdo p;YYYNdo q;YYN-do r;YN-Ydo s;YN-Ndo t;N---do p;",
    };
    private static final int[] VERDICTS = {
        RuleTables.SOUND, RuleTables.CONTRADICTION, RuleTables.GAP, RuleTables.TOO_BIG,
        RuleTables.SOUND, RuleTables.CONTRADICTION, RuleTables.GAP, RuleTables.SOUND,
    };
    /** Texts with the faults 1, 1, 2, 3, 3, 3, most of them late, so that much is read before. */
    private static final String[] FAULTY = {
        "", "if q,r;YYdo s;NNdo s;NYdo t;YNdo u", "if q,r,s,r;", SIXTEEN.replace(';', ',') + "q;",
        "if q;" + "-do s;".repeat(256) + "Y", "if q;" + manyActions() + "-do t;",
    };
    private static final int[] FAULTS = {1, 1, 2, 3, 3, 3};

    interface Row {
        long at(int i);
    }

    interface Deed {
        void on(RuleTables x);
    }

    public static void main(String[] args) {
        textsAreWhatTheyAreFor();
        aNewObject();
        typeTakes1To8();
        lowestBytesHighestFirst();
        typeTellsHowMany();
        atMost8000Bytes();
        keepFromNoneToAll();
        keptBytesAreTheFirst();
        tapeIsEmptyThen();
        tableBeforeStays();
        newTableInPlaceOfElder();
        faultOfTheLatestRead();
        amissEdges();
        countEdges();
        ruleEdges();
        nameEdges();
        meetsEdges();
        casesEdges();
        nodeEdges();
        codeEdges();
        runEdges();
        testsEdges();
        firstNamedIsThrown();
        throwingChangesNothing();
        Check.end();
    }

    private static String manyActions() {
        StringBuilder text = new StringBuilder();
        for (int k = 0; k < 64; k++) {
            text.append("-do s").append(k).append(';');
        }
        return text.toString();
    }

    private static void textsAreWhatTheyAreFor() {
        for (int t = 0; t < TEXTS.length; t++) {
            Check.verdict("a text of this test", VERDICTS[t], TEXTS[t]);
        }
        for (int t = 0; t < FAULTY.length; t++) {
            RuleTables x = Check.table(FAULTY[t]);
            Check.due("a faulty text of this test", FAULTS[t], () -> x.fault());
        }
    }

    private static boolean hasTree(int t) {
        return VERDICTS[t] == RuleTables.SOUND;
    }

    /** The numbers from .. below - 1 are there: the first and the last are answered, all others refused. */
    private static void edges(String what, int from, int below, Row row) {
        Check.answers(what + ", at " + from, () -> row.at(from));
        Check.answers(what + ", at " + (below - 1), () -> row.at(below - 1));
        refused(what, Check.INDEX, row, from - 1, below, MIN, MAX);
        for (int i = 1; i > 0; i *= 2) {
            if (i >= below) {
                refused(what, Check.INDEX, row, i, i + 1, -i - 1);
            }
        }
    }

    private static void refused(String what, String exception, Row row, int... numbers) {
        for (int i : numbers) {
            Check.dueThrow(what + ", at " + i, exception, () -> row.at(i));
        }
    }

    // ---- 1 to 3

    private static void aNewObject() {
        String s = "1 An empty tape, no table";
        RuleTables x = new RuleTables();
        for (int i = 0; i < 8; i++) {
            int what = i;
            Check.due(s + ": count(" + what + ")", 0, () -> x.count(what));
        }
        Check.due(s + ": fault()", 0, () -> x.fault());
        x.keep(0);
        Check.dueThrow(s + ": keep(1)", Check.ARGUMENT, () -> x.keep(1));
        Check.dueThrow(s + ": amiss(0)", Check.STATE, () -> x.amiss(0));
        Check.dueThrow(s + ": rule(0, NONE)", Check.INDEX, () -> x.rule(0, NONE));
        Check.dueThrow(s + ": name(true, 0, NONE)", Check.INDEX, () -> x.name(true, 0, NONE));
        Check.dueThrow(s + ": name(false, 0, NONE)", Check.INDEX, () -> x.name(false, 0, NONE));
        Check.dueThrow(s + ": meets(0)", Check.STATE, () -> x.meets(0));
        Check.dueThrow(s + ": cases(NONE)", Check.STATE, () -> x.cases(NONE));
        Check.dueThrow(s + ": tests()", Check.STATE, () -> x.tests());
        Check.due(s + ": type", 1, () -> x.type('i', 1));
    }

    private static void typeTakes1To8() {
        String s = "2 IllegalArgumentException: n is not 1 .. 8";
        RuleTables x = new RuleTables();
        refused(s, Check.ARGUMENT, n -> x.type(0, n), 0, 9, -1, -8, 10, 16, 256, 257, 65537, MIN, MIN + 1, MIN + 8, MAX);
        Check.due(s + ", and nothing came", 0, () -> x.count(7));
        Check.due(s + ": 1", 1, () -> x.type(0, 1));
        Check.due(s + ": 8", 9, () -> x.type(0, 8));
    }

    private static void lowestBytesHighestFirst() {
        String s = "2 The lowest n bytes of a number come behind the tape, the highest of them first";
        String text = "if abcdefghij,klmnopqrst;YNdo uvwxyz0123;N-do z9;YYdo a456789bcd;";
        String due = Answers.of(Check.table(text));
        long[] above = {0, -1, 0x2020202020202020L, 0x6162636465666768L, Long.MIN_VALUE, Long.MAX_VALUE};
        for (int n = 1; n <= 8; n++) {
            for (long other : above) {
                RuleTables x = new RuleTables();
                for (int from = 0; from < text.length(); from += n) {
                    int some = Math.min(n, text.length() - from);
                    long hidden = some == 8 ? 0 : other << 8 * some;
                    x.type(hidden | Check.packed(text, from, some), some);
                }
                x.read();
                Check.same(s + ", n = " + n, Answers.of(x), due);
            }
        }
        RuleTables y = new RuleTables();
        y.type(0x2020202020202020L, 8);
        y.type(0xff20202020202020L, 8);
        Check.due(s + ", a byte of 255", -9, () -> y.read());
        y.type(0x20202020202020ffL, 8);
        Check.due(s + ", a byte of 255", -8, () -> y.read());
    }

    private static void typeTellsHowMany() {
        String s = "2 how many it has";
        RuleTables x = new RuleTables();
        int has = 0;
        for (int n = 1; n <= 8; n++) {
            has += n;
            int number = n;
            Check.due(s, has, () -> x.type(-1, number));
            Check.due(s, has, () -> x.count(7));
        }
        x.keep(3);
        Check.due(s + ", after keep", 5, () -> x.type(-1, 2));
        x.read();
        Check.due(s + ", after read", 2, () -> x.type(-1, 2));
    }

    /** A tape of so many blanks; a full one needs more than 512 calls, where the document leaves all free. */
    private static RuleTables blankTape(int bytes) {
        RuleTables x = new RuleTables();
        for (int i = 0; i < bytes / 8; i++) {
            x.type(0x2020202020202020L, 8);
        }
        if (bytes % 8 > 0) {
            x.type(0x2020202020202020L, bytes % 8);
        }
        return x;
    }

    private static void atMost8000Bytes() {
        String s = "2 UnsupportedOperationException: they would be more than 8000";
        RuleTables x = blankTape(8000);
        Check.due(s + ": full", 8000, () -> x.count(7));
        for (int i = 1; i <= 8; i++) {
            int n = i;
            x.keep(8001 - n);
            Check.dueThrow(s + ", n = " + n, Check.UNSUPPORTED, () -> x.type(0, n));
            Check.due(s + ", and nothing came", 8001 - n, () -> x.count(7));
            x.keep(8000 - n);
            Check.due(s + ", n = " + n, 8000, () -> x.type(0x2020202020202020L, n));
        }
        refused("2 n is wrong, named first", Check.ARGUMENT, n -> x.type(0, n), 0, 9, -1, MIN, MAX);
        Check.dueThrow("3 it has not so many", Check.ARGUMENT, () -> x.keep(8001));
        x.keep(8000);
        Check.due("4 all of them are read", -8001, () -> x.read());
        Check.due("2 there is room again", 8, () -> x.type(0, 8));
        String text = "if a;Ydo x;Ndo yz;";
        RuleTables y = blankTape(8000 - text.length());
        Check.type(y, text);
        Check.due("1 THE TAPE has at most 8000 bytes", 8000, () -> y.count(7));
        Check.due("4 a text at the tape's end", RuleTables.SOUND, () -> y.read());
        Check.due("4 its last name", 'z', () -> y.name(true, 1, 1));
        RuleTables z = blankTape(7995);
        Check.type(z, "if a;");
        Check.due("1 at the tape's length", -8001, () -> z.read());
    }

    private static void keepFromNoneToAll() {
        String s = "3 IllegalArgumentException: n is below 0, or it has not so many";
        RuleTables x = new RuleTables();
        Row keep = n -> {
            x.keep(n);
            return x.count(7);
        };
        refused(s + ", of an empty tape", Check.ARGUMENT, keep, -1, 1, MIN, MAX);
        Check.due(s + ", of an empty tape", 0, () -> keep.at(0));
        Check.type(x, "if abc");
        refused(s + ", of six", Check.ARGUMENT, keep, -1, 7, 8, 8000, MIN, MAX);
        Check.due(s + ", and they stay", 6, () -> x.count(7));
        Check.due(s + ": all", 6, () -> keep.at(6));
        Check.due(s + ": one less", 5, () -> keep.at(5));
        refused(s + ", of five", Check.ARGUMENT, keep, -1, 6);
        Check.due(s + ": one", 1, () -> keep.at(1));
        Check.due(s + ": none", 0, () -> keep.at(0));
        refused(s + ", of none", Check.ARGUMENT, keep, -1, 1);
        Check.type(x, "if abc");
        x.read();
        refused(s + ", after read", Check.ARGUMENT, keep, 1, 6);
    }

    private static void keptBytesAreTheFirst() {
        String s = "3 The tape keeps its first n bytes";
        String text = "if abcdefghij;Ydo klmnopqrst;Ndo u;";
        String due = Answers.of(Check.table(text));
        for (int n = 0; n <= text.length(); n++) {
            RuleTables x = new RuleTables();
            Check.type(x, text.substring(0, n) + "Zz9;-,\u00ff");
            x.keep(n);
            Check.type(x, text.substring(n));
            Check.due(s + ": " + n, RuleTables.SOUND, () -> x.read());
            Check.same(s + ": " + n, Answers.of(x), due);
        }
        RuleTables y = new RuleTables();
        Check.type(y, text);
        y.keep(16);
        Check.due(s + ", and ends there", -16, () -> y.read());
    }

    // ---- 4 and 5

    private static void tapeIsEmptyThen() {
        String s = "4 The tape is read, and empty then (with a fault, too)";
        for (String text : TEXTS) {
            RuleTables x = Check.table(text);
            Check.due(s + ": " + text, 0, () -> x.count(7));
            Check.due(s + ", a second read()", -1, () -> x.read());
            Check.due(s + ", its fault", 1, () -> x.fault());
        }
        for (String text : FAULTY) {
            RuleTables x = Check.table(text);
            Check.due(s + ": " + text, 0, () -> x.count(7));
            Check.due(s + ", a good text behind it", RuleTables.SOUND, () -> Check.read(x, "if a;-do b;"));
        }
    }

    private static void tableBeforeStays() {
        String s = "4 a fault: then the table before stays";
        for (String text : TEXTS) {
            for (String fault : FAULTY) {
                RuleTables x = Check.table(text);
                String before = Answers.ofTable(x);
                Check.read(x, fault);
                Check.same(s + ": " + text + " then " + fault, Answers.ofTable(x), before);
            }
        }
        String none = Answers.ofTable(new RuleTables());
        for (String fault : FAULTY) {
            Check.same(s + ", or there is none: " + fault, Answers.ofTable(Check.table(fault)), none);
        }
        RuleTables y = Check.table(TEXTS[0]);
        String before = Answers.ofTable(y);
        Check.read(y, FAULTY[1]);
        Check.read(y, FAULTY[2]);
        y.read();
        Check.same(s + ", also after several", Answers.ofTable(y), before);
    }

    private static void newTableInPlaceOfElder() {
        String s = "a new table in the place of an elder one";
        for (int t = 0; t < TEXTS.length; t++) {
            String text = TEXTS[t];
            String due = Answers.of(Check.table(text));
            for (String elder : TEXTS) {
                RuleTables x = Check.table(elder);
                Check.due(s + ": " + elder + " then " + text, VERDICTS[t], () -> Check.read(x, text));
                Check.same(s + ": " + elder + " then " + text, Answers.of(x), due);
            }
            RuleTables y = Check.table(TEXTS[7]);
            Check.read(y, FAULTY[1]);
            Check.read(y, text);
            Check.same(s + ", with a fault between: " + text, Answers.of(y), due);
        }
    }

    private static void faultOfTheLatestRead() {
        String s = "5 The code of the fault of the latest read(); 0 if it had none, or before one";
        RuleTables x = new RuleTables();
        Check.due(s + ": before", 0, () -> x.fault());
        Check.type(x, "?");
        Check.due(s + ": before, with a faulty tape", 0, () -> x.fault());
        x.keep(0);
        for (int t = 0; t < 4; t++) {
            Check.read(x, FAULTY[t]);
            int due = FAULTS[t];
            Check.due(s + ": " + FAULTY[t], due, () -> x.fault());
            Check.due(s + ", asked again", due, () -> x.fault());
            Check.type(x, "if a;-do b;");
            Check.due(s + ", with a good tape", due, () -> x.fault());
            Check.due(s, RuleTables.SOUND, () -> x.read());
            Check.due(s + ": none", 0, () -> x.fault());
        }
        for (String text : TEXTS) {
            RuleTables y = Check.table("if a,a;");
            Check.read(y, text);
            Check.due(s + ", whatever the table is: " + text, 0, () -> y.fault());
        }
    }

    // ---- 6 to 9

    private static void amissEdges() {
        String s = "6 what = 0, 1 the two rules that CONTRADICT (NONE without), 2 the case";
        int[][] due = {{NONE, NONE, NONE}, {2, 3, 4}, {NONE, NONE, 0}, {NONE, NONE, NONE}, {NONE, NONE, NONE},
            {0, 1, 32769}, {NONE, NONE, 1}, {NONE, NONE, NONE}};
        for (int t = 0; t < TEXTS.length; t++) {
            RuleTables x = Check.table(TEXTS[t]);
            for (int what = 0; what < 3; what++) {
                int w = what;
                Check.due(s + ": " + what + " of " + TEXTS[t], due[t][what], () -> x.amiss(w));
            }
            edges(s, 0, 3, x::amiss);
        }
        refused("6 IllegalStateException: no table", Check.STATE, new RuleTables()::amiss, 0, 1, 2, 3, NONE, MIN, MAX);
    }

    private static void countEdges() {
        String s = "7 How many";
        int[][] due = {{2, 3, 2, 5, 3, 9, 2}, {3, 4, 2, 0, 0, 0, 0}, {3, 3, 3, 0, 0, 0, 0}, {15, 49, 2, 0, 0, 0, 0},
            {1, 1, 1, 1, 1, 1, 0}, {16, 2, 2, 0, 0, 0, 0}, {16, 1, 1, 0, 0, 0, 0}, {4, 6, 5, 11, 6, 21, 4}};
        for (int t = 0; t < TEXTS.length; t++) {
            RuleTables x = Check.table(TEXTS[t]);
            for (int what = 0; what < 7; what++) {
                int w = what;
                Check.due(s + ": " + what + " of " + TEXTS[t], due[t][what], () -> x.count(w));
            }
            Check.type(x, "abc");
            Check.due(s + ": 7 bytes of the tape", 3, () -> x.count(7));
            edges(s, 0, 8, x::count);
        }
        RuleTables none = new RuleTables();
        Check.type(none, "abc");
        for (int i = 0; i < 7; i++) {
            int what = i;
            Check.due("7 0 to 6: 0 without a table", 0, () -> none.count(what));
        }
        Check.due("7 the tape without a table", 3, () -> none.count(7));
        edges("7 without a table", 0, 8, none::count);
    }

    private static void ruleEdges() {
        String s = "8 IndexOutOfBoundsException";
        for (int t = 0; t < TEXTS.length; t++) {
            RuleTables x = Check.table(TEXTS[t]);
            int rules = x.count(1);
            edges(s + ", r", 0, rules, r -> x.rule(r, 0));
            edges(s + ", r with c NONE", 0, rules, r -> x.rule(r, NONE));
            edges(s + ", c", NONE, x.count(0), c -> x.rule(0, c));
            edges(s + ", c of the last rule", NONE, x.count(0), c -> x.rule(rules - 1, c));
            Check.dueThrow(s + ", both", Check.INDEX, () -> x.rule(NONE, NONE));
        }
        RuleTables none = new RuleTables();
        refused(s + ": also without a table", Check.INDEX, r -> none.rule(r, 0), 0, 1, NONE, MIN, MAX);
        refused(s + ": also without a table", Check.INDEX, c -> none.rule(0, c), 0, 1, NONE, MIN, MAX);
        RuleTables full = Check.table("if a;" + "Ndo x;".repeat(255) + "Ydo y;");
        edges(s + ", of 256 rules", 0, 256, r -> full.rule(r, 0));
        Check.due("8 the mark of the 256th rule", 1, () -> full.rule(255, 0));
        Check.due("8 the action of the 256th rule", 1, () -> full.rule(255, NONE));
        Check.due("8 the mark of the 255th rule", 0, () -> full.rule(254, 0));
    }

    private static final String NAMES = "if a,bb,cccccccccc;---do d;---do eeeeeeeeee;";

    private static void lengthAndBytes(String sentence, boolean action, int k, int length) {
        RuleTables x = Check.table(NAMES);
        Check.due("9 i NONE: how many it has", length, () -> x.name(action, k, NONE));
        edges(sentence + ", i of name " + k, NONE, length, i -> x.name(action, k, i));
    }

    private static void nameEdges() {
        String s = "9 IndexOutOfBoundsException";
        int[] conditions = {1, 2, 10};
        for (int k = 0; k < 3; k++) {
            lengthAndBytes(s, false, k, conditions[k]);
        }
        lengthAndBytes(s, true, 0, 1);
        lengthAndBytes(s, true, 1, 10);
        for (int i : new int[] {0, NONE}) {
            RuleTables x = Check.table(NAMES);
            edges(s + ", condition", 0, 3, k -> x.name(false, k, i));
            edges(s + ", action", 0, 2, k -> x.name(true, k, i));
        }
        RuleTables none = new RuleTables();
        for (boolean action : new boolean[] {false, true}) {
            refused(s + ": also without a table", Check.INDEX, k -> none.name(action, k, NONE), 0, 1, NONE, MIN, MAX);
            refused(s + ": also without a table", Check.INDEX, i -> none.name(action, 0, i), 0, 1, NONE, MIN, MAX);
        }
        RuleTables full = Check.table("if q;" + manyActions());
        edges(s + ", of 64 actions", 0, 64, k -> full.name(true, k, NONE));
        Check.due("9 the 64th action", '3', () -> full.name(true, 63, 2));
        RuleTables most = Check.table(TEXTS[6]);
        edges(s + ", of 16 conditions", 0, 16, k -> most.name(false, k, NONE));
        Check.due("9 the 16th condition", 'p', () -> most.name(false, 15, 0));
    }

    // ---- 10 to 15

    private static void meetsEdges() {
        String s = "10 IndexOutOfBoundsException: it is no case (with so many conditions)";
        for (String text : TEXTS) {
            RuleTables x = Check.table(text);
            edges(s, 0, 1 << x.count(0), x::meets);
        }
        refused("10 IllegalStateException: no table", Check.STATE, new RuleTables()::meets, 0, 1, NONE, MIN, MAX);
        RuleTables x = Check.table(TEXTS[6]);
        Check.due("10 the first case", 0, () -> x.meets(0));
        Check.due("10 NONE: none does", NONE, () -> x.meets(65535));
        RuleTables y = Check.table("if a;Ndo x;-do x;-do x;");
        Check.due("10 The first rule that meets a case", 0, () -> y.meets(0));
        Check.due("10 The first rule that meets a case", 1, () -> y.meets(1));
    }

    private static void casesEdges() {
        String s = "11 IndexOutOfBoundsException";
        for (String text : TEXTS) {
            RuleTables x = Check.table(text);
            edges(s, NONE, x.count(2), x::cases);
        }
        refused("11 IllegalStateException: no table", Check.STATE, new RuleTables()::cases, 0, 1, NONE, -2, MIN, MAX);
        RuleTables all = Check.table(SIXTEEN + "-".repeat(16) + "do x;");
        Check.due("11 all cases", 65536, () -> all.cases(0));
        Check.due("11 k NONE: by none", 0, () -> all.cases(NONE));
        RuleTables one = Check.table(TEXTS[6]);
        Check.due("11 one case", 1, () -> one.cases(0));
        Check.due("11 k NONE: by none", 65535, () -> one.cases(NONE));
        RuleTables twice = Check.table("if a;-do x;Ydo y;-do x;Ydo y;");
        Check.due("11 a case that two rules meet", 2, () -> twice.cases(0));
        Check.due("11 a case that two actions have", 1, () -> twice.cases(1));
        // The last two rules meet no case that is not met already.
        RuleTables some = Check.table("if a,b,c;Y--do x;-Y-do x;NNYdo y;YYYdo x;YYNdo x;");
        Check.due("11 the cases of two rules that overlap", 6, () -> some.cases(0));
        Check.due("11 the case of one rule", 1, () -> some.cases(1));
        Check.due("11 k NONE: by none", 1, () -> some.cases(NONE));
        RuleTables parts = Check.table("if a,b,c,d;YN--do x;NY--do x;--YNdo y;--NYdo y;");
        Check.due("11 rules that do not overlap", 8, () -> parts.cases(0));
        Check.due("11 rules that do not overlap", 8, () -> parts.cases(1));
        Check.due("11 k NONE: by none", 4, () -> parts.cases(NONE));
        RuleTables full = Check.table("if q;" + manyActions());
        edges(s + ", of 64 actions", NONE, 64, full::cases);
    }

    private static void nodeEdges() {
        String s = "12 IndexOutOfBoundsException";
        for (int t = 0; t < TEXTS.length; t++) {
            RuleTables x = Check.table(TEXTS[t]);
            if (hasTree(t)) {
                edges(s + ", what", 0, 4, what -> x.node(0, what));
                edges(s + ", k", 0, x.count(3), k -> x.node(k, 0));
                edges(s + ", k, what = 3", 0, x.count(3), k -> x.node(k, 3));
            } else {
                refused("12 IllegalStateException: no tree", Check.STATE, k -> x.node(k, 0), 0, 1, NONE, MIN, MAX);
                refused("12 IllegalStateException: no tree", Check.STATE, what -> x.node(0, what), 0, 4, NONE, MIN, MAX);
            }
        }
        RuleTables leaf = Check.table(TEXTS[4]);
        RuleTables test = Check.table(TEXTS[0]);
        for (int i = 0; i < 4; i++) {
            int what = i;
            Check.due("12 NONE: a leaf, " + what, new int[] {NONE, NONE, NONE, 0}[what], () -> leaf.node(0, what));
            Check.due("12 NONE: a test, " + what, new int[] {0, 1, 2, NONE}[what], () -> test.node(0, what));
        }
        RuleTables big = Check.table(Formula.table("&|&vv&vv|&vv&vv", "|&v&vv&&vvv"));
        edges(s + ", of 999 nodes", 0, 999, k -> big.node(k, 0));
    }

    private static void codeEdges() {
        String s = "13 IndexOutOfBoundsException";
        for (int t = 0; t < TEXTS.length; t++) {
            RuleTables x = Check.table(TEXTS[t]);
            if (hasTree(t)) {
                edges(s, 0, x.count(5), x::code);
            } else {
                refused("13 IllegalStateException: no tree", Check.STATE, x::code, 0, 1, NONE, MIN, MAX);
            }
        }
        RuleTables big = Check.table(Formula.table("&|&vv&vv|&vv&vv", "|&v&vv&&vvv"));
        edges(s + ", of 1997 bytes", 0, 1997, big::code);
    }

    private static void runEdges() {
        String s = "14 IndexOutOfBoundsException: it is no case";
        for (boolean tests : new boolean[] {false, true}) {
            for (int t = 0; t < TEXTS.length; t++) {
                RuleTables x = Check.table(TEXTS[t]);
                if (hasTree(t)) {
                    edges(s, 0, 1 << x.count(0), i -> x.run(i, tests));
                } else {
                    refused("14 IllegalStateException: no tree", Check.STATE, i -> x.run(i, tests), 0, 1, NONE, 65536, MIN, MAX);
                }
            }
            RuleTables most = Check.table(SIXTEEN + "-".repeat(16) + "do x;");
            edges(s + ", of 16 conditions", 0, 65536, i -> most.run(i, tests));
        }
    }

    private static void testsEdges() {
        String s = "15 How many tests all cases need together";
        long[] due = {6, -1, -1, -1, 0, -1, -1, 34};
        for (int t = 0; t < TEXTS.length; t++) {
            RuleTables x = Check.table(TEXTS[t]);
            if (hasTree(t)) {
                Check.due(s + ": " + TEXTS[t], due[t], () -> x.tests());
            } else {
                Check.dueThrow("15 IllegalStateException: no tree", Check.STATE, () -> x.tests());
            }
        }
        Check.dueThrow("15 IllegalStateException: no table", Check.STATE, () -> new RuleTables().tests());
        RuleTables most = Check.table(SIXTEEN + "-".repeat(15) + "Ydo x;" + "-".repeat(15) + "Ndo y;");
        Check.due(s + ", one for each", 65536, () -> most.tests());
    }

    // ---- what is thrown

    private static void firstNamedIsThrown() {
        String s = "Methods throw the one named first when several would do";
        for (int t = -1; t < TEXTS.length; t++) {
            RuleTables x = t < 0 ? new RuleTables() : Check.table(TEXTS[t]);
            if (t < 0) {
                refused(s + ": amiss", Check.STATE, x::amiss, -1, 3);
                refused(s + ": meets", Check.STATE, x::meets, -1, 65536);
                refused(s + ": cases", Check.STATE, x::cases, -2, 64);
            }
            if (t < 0 || !hasTree(t)) {
                refused(s + ": node", Check.STATE, i -> x.node(i, i), -1, 1000);
                refused(s + ": code", Check.STATE, x::code, -1, 2000);
                refused(s + ": run", Check.STATE, i -> x.run(i, true), -1, 65536);
            }
        }
        RuleTables full = blankTape(8000);
        refused(s + ": type", Check.ARGUMENT, n -> full.type(0, n), 0, 9);
    }

    /** Calls that throw, whatever the object has read. */
    private static final Deed[] REFUSED = {
        x -> x.type(-1, 0), x -> x.type(-1, 9), x -> x.keep(-1), x -> x.keep(8001),
        x -> x.amiss(-1), x -> x.amiss(3), x -> x.count(-1), x -> x.count(8),
        x -> x.rule(-1, 0), x -> x.rule(256, 0), x -> x.rule(0, -2), x -> x.rule(0, 16),
        x -> x.name(false, -1, 0), x -> x.name(false, 16, 0), x -> x.name(true, 64, NONE), x -> x.name(true, 0, 10),
        x -> x.meets(-1), x -> x.meets(65536), x -> x.cases(-2), x -> x.cases(64),
        x -> x.node(-1, 0), x -> x.node(1000, 0), x -> x.node(0, -1), x -> x.node(0, 4),
        x -> x.code(-1), x -> x.code(2000), x -> x.run(-1, true), x -> x.run(65536, false),
    };

    private static boolean isRefused(Deed deed, RuleTables x) {
        try {
            deed.on(x);
            return false;
        } catch (RuntimeException e) {
            return true;
        }
    }

    /** An object that has read a text or none, then perhaps a faulty one, and has half a text on its tape. */
    private static RuleTables inTheMiddle(int text, int fault) {
        RuleTables x = text < 0 ? new RuleTables() : Check.table(TEXTS[text]);
        if (fault >= 0) {
            Check.read(x, FAULTY[fault]);
        }
        Check.type(x, "if a,b;Y-do x;N");
        return x;
    }

    private static void throwingChangesNothing() {
        String s = "A call that throws changes nothing";
        for (int text = -1; text < TEXTS.length; text++) {
            for (int fault = -1; fault < 4; fault++) {
                RuleTables x = inTheMiddle(text, fault);
                String before = Answers.of(x);
                for (int d = 0; d < REFUSED.length; d++) {
                    Check.same(s + ": call " + d + " throws", "" + isRefused(REFUSED[d], x), "true");
                }
                Check.same(s + ", text " + text + ", fault " + fault, Answers.of(x), before);
                Check.type(x, "-do y;");
                Check.due(s + ", nor the bytes of the tape", RuleTables.SOUND, () -> x.read());
            }
        }
        eachAloneChangesNothing(s);
        withoutATree(s);
        aFullTape(s);
    }

    private static void eachAloneChangesNothing(String s) {
        for (int d = 0; d < REFUSED.length; d++) {
            for (int text : new int[] {-1, 0, 1, 2, 7}) {
                RuleTables x = inTheMiddle(text, 2);
                String before = Answers.of(x);
                isRefused(REFUSED[d], x);
                Check.same(s + ": call " + d, Answers.of(x), before);
            }
        }
    }

    private static void withoutATree(String s) {
        for (int text : new int[] {-1, 1, 2, 3}) {
            RuleTables x = inTheMiddle(text, -1);
            String before = Answers.of(x);
            Check.dueThrow(s + ": tests()", Check.STATE, () -> x.tests());
            Check.dueThrow(s + ": node(0, 0)", Check.STATE, () -> x.node(0, 0));
            Check.dueThrow(s + ": code(0)", Check.STATE, () -> x.code(0));
            Check.dueThrow(s + ": run(0, true)", Check.STATE, () -> x.run(0, true));
            Check.same(s + ", without a tree", Answers.of(x), before);
        }
    }

    private static void aFullTape(String s) {
        String text = "if a;Ydo x;Ndo y";
        RuleTables x = blankTape(7999 - text.length());
        Check.type(x, text);
        String before = Answers.of(x);
        Check.dueThrow(s + ": type", Check.UNSUPPORTED, () -> x.type(-1, 2));
        Check.dueThrow(s + ": type", Check.UNSUPPORTED, () -> x.type(-1, 8));
        Check.same(s + ", on a full tape", Answers.of(x), before);
        Check.due(s + ", on a full tape", 8000, () -> x.type(';', 1));
        Check.due(s + ", on a full tape", RuleTables.SOUND, () -> x.read());
    }
}
