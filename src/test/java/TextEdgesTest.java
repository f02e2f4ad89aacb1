/** "1 TEXTS": for each sentence that names an edge a test of its own; the labels are the document's words. */
public final class TextEdgesTest {
    private static final String SIXTEEN = "if a,b,c,d,e,f,g,h,i,j,k,l,m,n,o,p";
    private static final String SIXTEEN_MARKS = "-".repeat(16);
    private static final String[] PARTS = {"if", "a", ",", "b", ";", "Y", "-", "do", "x", ";", "N", "-", "do", "y", ";"};

    public static void main(String[] args) {
        placesAreCountedFrom0();
        blanksBetweenAllParts();
        fourBlanksAlone();
        firstByteOfAName();
        laterBytesOfAName();
        tenBytesAtMost();
        asLongAsMayBe();
        threeMarks();
        oneConditionAtLeast();
        commaBetweenNames();
        oneRuleAtLeast();
        aMarkForEachCondition();
        thenTheWordDo();
        actionsAreNumbered();
        ifAndDoAreNames();
        blanksNeedNotStand();
        byteThatCannotStand();
        nameTooLong();
        anotherName();
        endsTooEarly();
        nameThereAlready();
        seventeenthCondition();
        rule257();
        action65();
        firstFromTheLeft();
        severalAtOnePlace();
        anyByteAtTheLimits();
        Check.end();
    }

    private static void placesAreCountedFrom0() {
        String s = "PLACES are counted from 0";
        Check.faulty(s, 1, 0, ";");
        Check.faulty(s, 1, 1, " ;");
        Check.faulty(s, 1, 2, "if;");
        Check.faulty(s, 1, 7, "if    a?");
        Check.faulty(s, 1, 8, "if     a?");
        Check.faulty(s, 1, 9, "if      a?");
        Check.faulty(s, 1, 3000, " ".repeat(3000) + "?");
    }

    /** The parts of a small table with something in one gap, and elsewhere only what keeps two names apart. */
    private static String joined(int gap, String filling) {
        StringBuilder text = new StringBuilder();
        for (int i = 0; i <= PARTS.length; i++) {
            boolean needed = i > 0 && (PARTS[i - 1].equals("if") || PARTS[i - 1].equals("do"));
            text.append(i == gap ? filling : needed ? " " : "");
            text.append(i < PARTS.length ? PARTS[i] : "");
        }
        return text.toString();
    }

    private static void isWhole(String sentence, String text) {
        RuleTables x = new RuleTables();
        Check.due(sentence + ": " + text, RuleTables.SOUND, () -> Check.read(x, text));
        Check.due(sentence + ", conditions of " + text, 2, () -> x.count(0));
        Check.due(sentence + ", rules of " + text, 2, () -> x.count(1));
        Check.due(sentence + ", actions of " + text, 2, () -> x.count(2));
    }

    private static void blanksBetweenAllParts() {
        String s = "BLANKS (9, 10, 13, 32) may stand between all parts";
        for (int gap = 0; gap <= PARTS.length; gap++) {
            for (String blank : new String[] {"\t", "\n", "\r", " "}) {
                isWhole(s, joined(gap, blank));
                isWhole(s, joined(gap, blank + blank + blank));
            }
            isWhole(s, joined(gap, "\r\n \t"));
        }
        isWhole(s, "\t" + String.join("\n\r \t", PARTS) + " ");
    }

    private static boolean isBlank(int b) {
        return b == 9 || b == 10 || b == 13 || b == 32;
    }

    private static boolean isLetter(int b) {
        return b >= 97 && b <= 122;
    }

    private static boolean isDigit(int b) {
        return b >= 48 && b <= 57;
    }

    /** A byte that may stand somewhere, or else is a fault there. */
    private static void mayStand(String sentence, boolean may, int place, String text) {
        if (may) {
            Check.verdict(sentence, RuleTables.SOUND, text);
        } else {
            Check.faulty(sentence, 1, place, text);
        }
    }

    private static void fourBlanksAlone() {
        String s = "BLANKS are 9, 10, 13 and 32 alone";
        for (int b = 0; b < 256; b++) {
            char it = (char) b;
            boolean isMark = it == 'Y' || it == 'N' || it == '-';
            mayStand(s, isBlank(b), 0, it + "if a;-do x;");
            mayStand(s, isBlank(b), isMark ? 6 : 5, "if a;" + it + "-do x;");
            mayStand(s, isBlank(b), isMark ? 12 : 11, "if a;-do x;" + it);
        }
    }

    private static void firstByteOfAName() {
        String s = "A NAME: a letter a .. z, then";
        for (int b = 0; b < 256; b++) {
            char it = (char) b;
            mayStand(s, isLetter(b), isBlank(b) ? 4 : 3, "if " + it + ";-do x;");
            mayStand(s, isLetter(b), isBlank(b) ? 7 : 6, "if aa," + it + ";--do x;");
            mayStand(s, isLetter(b), isBlank(b) ? 10 : 9, "if a;-do " + it + ";");
        }
    }

    private static void laterBytesOfAName() {
        String s = "then letters a .. z and digits";
        for (int b = 0; b < 256; b++) {
            char it = (char) b;
            boolean isOfName = isLetter(b) || isDigit(b);
            boolean may = isOfName || isBlank(b);
            mayStand(s, may, it == ';' || it == ',' ? 5 : 4, "if a" + it + ";-do x;");
            mayStand(s, may, it == ';' ? 11 : 10, "if a;-do x" + it + ";");
            if (may) {
                RuleTables x = Check.table("if a" + it + ";-do x" + it + ";");
                Check.due(s + ", condition a" + it, isOfName ? 2 : 1, () -> x.name(false, 0, RuleTables.NONE));
                Check.due(s + ", action x" + it, isOfName ? 2 : 1, () -> x.name(true, 0, RuleTables.NONE));
                Check.same(s + ", condition a" + it, Check.answerOf(() -> x.name(false, 0, 1)), isOfName ? "" + b : Check.INDEX);
                Check.same(s + ", action x" + it, Check.answerOf(() -> x.name(true, 0, 1)), isOfName ? "" + b : Check.INDEX);
            }
        }
    }

    private static void tenBytesAtMost() {
        String s = "10 bytes at most";
        String longest = "q9z8y7x6w5";
        for (int n = 1; n <= 10; n++) {
            String name = longest.substring(0, n);
            RuleTables x = Check.table("if " + name + ",r;--do " + name + ";");
            for (boolean action : new boolean[] {false, true}) {
                Check.due(s + ", length of " + name, n, () -> x.name(action, 0, RuleTables.NONE));
                int last = n - 1;
                Check.due(s + ", last byte of " + name, name.charAt(last), () -> x.name(action, 0, last));
            }
        }
        for (int n : new int[] {1, 2, 6, 7, 40, 90, 246, 247, 1000, 3000}) {
            String name = longest + "0".repeat(n);
            Check.faulty(s, 1, 3, "if " + name + ";-do x;");
            Check.faulty(s, 1, 6, "if r, " + name + ";--do x;");
            Check.faulty(s, 1, 9, "if a;-do " + name + ";");
        }
        RuleTables x = Check.table("if abcdefghij,abcdefghi9,abcdefghi;---do abcdefghij;---do abcdefghi9;---do abcdefghi;");
        Check.due(s + ": names that differ in the tenth byte", 3, () -> x.count(0));
        Check.due(s + ": names that differ in the tenth byte", 3, () -> x.count(2));
    }

    private static void asLongAsMayBe() {
        String s = "as long as may be";
        Check.faulty(s, 1, 0, "ifa;-do x;");
        Check.faulty(s, 1, 0, "if9;-do x;");
        Check.faulty(s, 1, 6, "if a;-dox;");
        Check.faulty(s, 1, 6, "if a;-do9;");
        Check.due(s + ": one condition", 1, () -> Check.table("if ifif;-do dodo;").count(0));
        Check.due(s + ": its four bytes", 4, () -> Check.table("if ifif;-do dodo;").name(false, 0, RuleTables.NONE));
        Check.due(s + ": the action's", 4, () -> Check.table("if ifif;-do dodo;").name(true, 0, RuleTables.NONE));
        Check.faulty(s + ", but not over a blank", 1, 5, "if a b;-do x;");
        Check.faulty(s + ", but not over a blank", 1, 11, "if a;-do x y;");
    }

    private static void threeMarks() {
        String s = "A MARK: Y, N or -";
        for (int b = 0; b < 256; b++) {
            char it = (char) b;
            if (it != 'Y' && it != 'N' && it != '-') {
                Check.faulty(s, 1, isBlank(b) ? 6 : 5, "if a;" + it + "do x;");
                Check.faulty(s, 1, isBlank(b) ? 9 : 8, "if a,b;Y" + it + "do x;");
            }
        }
        RuleTables x = Check.table("if a,b,c;YN-do x;");
        Check.due(s + ": Y", 1, () -> x.rule(0, 0));
        Check.due(s + ": N", 0, () -> x.rule(0, 1));
        Check.due(s + ": -", 2, () -> x.rule(0, 2));
    }

    private static void oneConditionAtLeast() {
        String s = "NAMES: one at least";
        Check.faulty(s, 1, 2, "if;do x;");
        Check.faulty(s, 1, 3, "if ;do x;");
        Check.faulty(s, 1, 3, "if -do x;");
        Check.verdict(s, RuleTables.SOUND, "if a;-do x;");
        Check.verdict(s, RuleTables.SOUND, SIXTEEN + ";" + SIXTEEN_MARKS + "do x;");
    }

    private static void commaBetweenNames() {
        String s = "NAME with , between";
        Check.faulty(s, 1, 3, "if ,a;-do x;");
        Check.faulty(s, 1, 5, "if a,;-do x;");
        Check.faulty(s, 1, 5, "if a,,b;--do x;");
        Check.faulty(s, 1, 5, "if a b;--do x;");
        Check.faulty(s, 1, 4, "if a.b;--do x;");
        Check.faulty(s, 1, 2, "if,a;-do x;");
    }

    private static void oneRuleAtLeast() {
        String s = "RULES: one at least";
        Check.faulty(s, 1, 5, "if a;");
        Check.faulty(s, 1, 8, "if a; \t\n");
        Check.due(s, 1, () -> Check.table("if a;-do x;").count(1));
    }

    private static void aMarkForEachCondition() {
        String s = "a MARK for each condition";
        String[] heads = {"if a;", "if a,b;", SIXTEEN + ";"};
        int[] conditions = {1, 2, 16};
        for (int i = 0; i < heads.length; i++) {
            int n = conditions[i];
            int from = heads[i].length();
            Check.verdict(s, RuleTables.SOUND, heads[i] + "-".repeat(n) + "do x;");
            Check.faulty(s, 1, from + n - 1, heads[i] + "-".repeat(n - 1) + "do x;");
            Check.faulty(s, 1, from + n, heads[i] + "-".repeat(n + 1) + "do x;");
            Check.faulty(s, 1, from, heads[i] + "do x;");
        }
        Check.faulty(s + ", of a later rule", 1, 16, "if a,b;--do y; -do x;");
        Check.faulty(s + ", of a later rule", 1, 16, "if a,b;--do y;---do x;");
    }

    private static void thenTheWordDo() {
        String s = "then the word do, a NAME, ;";
        Check.faulty(s, 1, 6, "if a;-x;");
        Check.faulty(s, 1, 6, "if a;-;");
        Check.faulty(s, 1, 6, "if a;-,do x;");
        Check.faulty(s, 1, 8, "if a;-do;");
        Check.faulty(s, 1, 9, "if a;-do ;");
        Check.faulty(s, 1, 9, "if a;-do -do x;");
        Check.faulty(s, 1, 10, "if a;-do x-do y;");
        Check.faulty(s, 1, 10, "if a;-do x,");
        Check.faulty(s, 1, 11, "if a;-do x;;");
        Check.faulty(s, 1, 11, "if a;-do x;do y;");
    }

    private static void actionsAreNumbered() {
        String s = "the ACTIONS, numbered from 0 by when each comes first";
        RuleTables x = Check.table("if a;-do c;-do a;-do c;-do b;-do a;-do d;");
        int[] due = {0, 1, 0, 2, 1, 3};
        for (int i = 0; i < due.length; i++) {
            int r = i;
            Check.due(s + ": rule " + r, due[r], () -> x.rule(r, RuleTables.NONE));
        }
        Check.due(s, 4, () -> x.count(2));
        for (int i = 0; i < 4; i++) {
            int k = i;
            Check.due(s + ": action " + k, "cabd".charAt(k), () -> x.name(true, k, 0));
        }
    }

    private static void ifAndDoAreNames() {
        String s = "if and do are names as well";
        Check.verdict(s, RuleTables.SOUND, "if if;-do do;");
        Check.verdict(s, RuleTables.SOUND, "if do;-do if;");
        Check.verdict(s, RuleTables.SOUND, "if do,if;--do do;--do do;");
        Check.faulty(s + ", and may not stand twice", 2, 6, "if if,if;--do x;");
        RuleTables x = Check.table("if if,do;Y-do if;N-do do;");
        Check.due(s, 'i', () -> x.name(false, 0, 0));
        Check.due(s, 'd', () -> x.name(false, 1, 0));
        Check.due(s, 'i', () -> x.name(true, 0, 0));
        Check.due(s, 'd', () -> x.name(true, 1, 0));
    }

    private static void blanksNeedNotStand() {
        String s = "blanks need not stand between MARKS, nor before do";
        for (String marks : new String[] {"YN-do x;", "Y N - do x;", "YN -do x;", "Y N-\tdo x;"}) {
            RuleTables x = Check.table("if a,b,c;" + marks);
            Check.due(s + ": " + marks, 1, () -> x.rule(0, 0));
            Check.due(s + ": " + marks, 0, () -> x.rule(0, 1));
            Check.due(s + ": " + marks, 2, () -> x.rule(0, 2));
            Check.due(s + ": " + marks, 0, () -> x.rule(0, RuleTables.NONE));
        }
        Check.verdict("nor anywhere but between names", RuleTables.SOUND, "if a,b,c;---do x;---do x;");
    }

    private static void byteThatCannotStand() {
        String s = "1 at a byte that cannot stand where it does";
        for (char b : new char[] {'?', '.', ':', '_', 'A', 'X', 0, 11, 127, 128, 160, 217, 255}) {
            Check.faulty(s, 1, 2, "if" + b + " a;Ydo x;");
            Check.faulty(s, 1, 6, "if a  " + b + ";Ydo x;");
            Check.faulty(s, 1, 6, "if a;Y" + b + "do x;");
            Check.faulty(s, 1, 8, "if a;Ydo" + b + " x;");
            Check.faulty(s, 1, 11, "if a;Ydo x " + b + ";");
            Check.faulty(s, 1, 11, "if a;Ydo x;" + b);
        }
        Check.faulty(s, 1, 3, "if 1;Ydo x;");
        Check.faulty(s, 1, 5, "if a 1;Ydo x;");
        Check.faulty(s, 1, 5, "if a;1Ydo x;");
        Check.faulty(s, 1, 6, "if a;Y1do x;");
        Check.faulty(s, 1, 9, "if a;Ydo 1x;");
        Check.faulty(s, 1, 11, "if a;Ydo x;y");
        Check.faulty(s, 1, 5, "if a;;");
        Check.faulty(s, 1, 4, "if a-");
    }

    private static void nameTooLong() {
        String s = "1 at a NAME (if, do, too) that is too long";
        Check.faulty(s, 1, 0, "ifififififi a;-do x;");
        Check.faulty(s, 1, 1, " if000000000 a;-do x;");
        Check.faulty(s, 1, 3, "if abcdefghijk;-do x;");
        Check.faulty(s, 1, 7, "if a , bbbbbbbbbbb;--do x;");
        Check.faulty(s, 1, 7, "if a;- dodododododo x;");
        Check.faulty(s, 1, 9, "if a;-do x0123456789;");
        Check.faulty(s + " and at the tape's end", 1, 3, "if abcdefghijk");
        Check.faulty(s + " and at the tape's end", 1, 9, "if a;-do abcdefghijk");
    }

    private static void anotherName() {
        String s = "1 at a NAME that is another one than it must be";
        for (String name : new String[] {"i", "f", "fi", "iff", "if0", "do", "of", "ig", "hf", "xif", "i0"}) {
            Check.faulty(s, 1, 0, name + " a;-do x;");
        }
        for (String name : new String[] {"d", "o", "od", "doo", "do0", "if", "to", "dp", "xdo", "d0"}) {
            Check.faulty(s, 1, 7, "if a;- " + name + " x;");
        }
    }

    private static void endsTooEarly() {
        String s = "1 at the tape's length: it ends too early";
        String text = "if ab , c;Y- do xy ;N-do z;";
        for (int n = 0; n < text.length(); n++) {
            if (n == 20) {
                Check.verdict("one rule is enough", RuleTables.GAP, text.substring(0, n));
                continue;
            }
            // Half a word is another name than it must be, where it begins.
            boolean isHalfWord = n == 1 || n == 14 || n == 23;
            Check.faulty(s, 1, isHalfWord ? n - 1 : n, text.substring(0, n));
        }
        Check.verdict("all of it", RuleTables.SOUND, text);
        Check.faulty(s, 1, 6, "if a  ");
        Check.faulty(s, 1, 12, "if a;-do x\r\n");
        Check.faulty(s + ", of an empty tape", 1, 0, "");
    }

    private static void nameThereAlready() {
        String s = "2 at a condition's NAME that there is already";
        Check.faulty(s, 2, 5, "if a,a;--do x;");
        Check.faulty(s, 2, 8, "if ab,c,ab,d;----do x;");
        Check.faulty(s, 2, 15, "if abcdefghij, abcdefghij");
        Check.faulty(s, 2, SIXTEEN.length() - 1, SIXTEEN.substring(0, SIXTEEN.length() - 1) + "a;");
        Check.faulty(s, 2, SIXTEEN.length() - 1, SIXTEEN.substring(0, SIXTEEN.length() - 1) + "o;");
        Check.verdict("an action may have a condition's NAME", RuleTables.SOUND, "if a,b;--do a;");
        Check.verdict("a beginning of a NAME is another one", RuleTables.SOUND, "if ab,a,abc;---do a;");
        Check.verdict("digits count", RuleTables.SOUND, "if a,a0,a1,a00;----do a;");
    }

    private static void seventeenthCondition() {
        String s = "3 at the NAME of the 17th condition";
        int from = SIXTEEN.length() + 1;
        Check.verdict("16 conditions", RuleTables.SOUND, SIXTEEN + ";" + SIXTEEN_MARKS + "do x;");
        Check.due("16 conditions", 16, () -> Check.table(SIXTEEN + ";" + SIXTEEN_MARKS + "do x;").count(0));
        Check.faulty(s, 3, from, SIXTEEN + ",q;-" + SIXTEEN_MARKS + "do x;");
        Check.faulty(s, 3, from, SIXTEEN + ",q");
        Check.faulty(s, 3, from + 2, SIXTEEN + ", \tq?");
        Check.faulty(s, 3, from, SIXTEEN + ",abcdefghij,r");
        Check.faulty("a byte that is no NAME there", 1, from, SIXTEEN + ",Q;");
        Check.faulty("the tape's end there", 1, from, SIXTEEN + ",");
    }

    private static String rules(int n, String rule) {
        return "if a,b;" + rule.repeat(n);
    }

    private static void rule257() {
        String s = "3 at the first MARK of the 257th rule";
        String most = rules(256, "--do x;");
        Check.verdict("256 rules", RuleTables.SOUND, most);
        Check.due("256 rules", 256, () -> Check.table(most).count(1));
        Check.faulty(s, 3, most.length(), most + "--do x;");
        Check.faulty(s, 3, most.length(), most + "Y");
        Check.faulty(s, 3, most.length(), most + "N?");
        Check.faulty(s, 3, most.length() + 2, most + " \n-do x;");
        Check.faulty("a byte that is no MARK there", 1, most.length() + 1, most + " do x;");
        Check.faulty("a byte that is no MARK there", 1, most.length(), most + ";");
        Check.verdict("blanks alone there", RuleTables.SOUND, most + " \n\t\r");
        String fewer = rules(255, "--do x;");
        Check.faulty("the 256th rule is read whole", 1, fewer.length() + 6, fewer + "--do x");
    }

    private static String actions(int n) {
        StringBuilder text = new StringBuilder("if a;");
        for (int k = 0; k < n; k++) {
            text.append("-do a").append(k).append(';');
        }
        return text.toString();
    }

    private static void action65() {
        String s = "3 at the NAME of the 65th action";
        String most = actions(64);
        Check.verdict("64 actions", RuleTables.CONTRADICTION, most);
        Check.due("64 actions", 64, () -> Check.table(most).count(2));
        Check.faulty(s, 3, most.length() + 4, most + "-do a64;");
        Check.faulty(s, 3, most.length() + 5, most + "-do  a");
        Check.faulty(s, 3, most.length() + 4, most + "-do b?");
        RuleTables x = Check.table(most + "-do a63;-do a0;");
        Check.due("a known action behind the 64th", 63, () -> x.rule(64, RuleTables.NONE));
        Check.due("a known action behind the 64th", 0, () -> x.rule(65, RuleTables.NONE));
        Check.faulty(s + ", behind known ones", 3, most.length() + 11, most + "-do a5;-do a64;");
        Check.faulty("the tape's end there", 1, most.length() + 4, most + "-do ");
    }

    private static void firstFromTheLeft() {
        String s = "FAULTS, the first from the left";
        Check.faulty(s + ": 1, then 2", 1, 3, "if A,b,b;--do x;");
        Check.faulty(s + ": 2, then 1", 2, 5, "if a,a,?;--do x;");
        Check.faulty(s + ": 2, then 3", 2, 5, "if a,a," + SIXTEEN.substring(5) + ",q,r;");
        Check.faulty(s + ": 3, then 2", 3, SIXTEEN.length() + 1, SIXTEEN + ",q,a;");
        Check.faulty(s + ": 3, then 1", 3, SIXTEEN.length() + 1, SIXTEEN + ",q?");
        Check.faulty(s + ": 1, then 3", 1, SIXTEEN.length(), SIXTEEN + "?,q;");
        Check.faulty(s + ": 1, then 1", 1, 5, "if a;?do abcdefghijk");
        Check.faulty(s + ": 1 at a NAME, then the tape's end", 1, 9, "if a;Ydo abcdefghijk");
        String actions = actions(64);
        Check.faulty(s + ": the 65th action, then the tape's end", 3, actions.length() + 4, actions + "-do x");
        String full = actions + "-do a0;".repeat(192);
        Check.verdict("64 actions, 256 rules", RuleTables.CONTRADICTION, full);
        Check.faulty(s + ": the 257th rule, then the 65th action", 3, full.length(), full + "-do x;");
        String fewer = actions + "-do a0;".repeat(191);
        Check.faulty(s + ": the 65th action, then the 257th rule", 3, fewer.length() + 4, fewer + "-do x;-do y;");
    }

    private static void anyByteAtTheLimits() {
        String s = "1 or 3 where the 17th condition, the 257th rule, the 65th action would begin";
        String rules = rules(256, "--do x;");
        String actions = actions(64) + "-do ";
        for (int b = 0; b < 256; b++) {
            char it = (char) b;
            int skipped = isBlank(b) ? 1 : 0;
            Check.faulty(s, isLetter(b) && b > 'p' ? 3 : isLetter(b) ? 2 : 1, SIXTEEN.length() + 1 + skipped, SIXTEEN + "," + it);
            Check.faulty(s, isLetter(b) ? 3 : 1, actions.length() + skipped, actions + it);
            if (isBlank(b)) {
                Check.verdict(s, RuleTables.SOUND, rules + it);
            } else {
                Check.faulty(s, it == 'Y' || it == 'N' || it == '-' ? 3 : 1, rules.length(), rules + it);
            }
        }
    }

    private static void severalAtOnePlace() {
        String s = "of several at one place the one told first";
        int from = SIXTEEN.length() + 1;
        Check.faulty(s + ": 1 and 3", 1, from, SIXTEEN + ",abcdefghijk;");
        Check.faulty(s + ": 2 and 3", 2, from, SIXTEEN + ",a;");
        Check.faulty(s + ": 2 and 3", 2, from, SIXTEEN + ",p;");
        Check.faulty(s + ": 1, where a cut NAME would be there already", 1, 14, "if abcdefghij,abcdefghijk;");
        Check.faulty(s + ": 1 and 3 at an action", 1, actions(64).length() + 4, actions(64) + "-do abcdefghijk;");
        String most = rules(256, "--do x;");
        Check.faulty(s + ": 1 and 3 at a rule", 1, most.length(), most + "?");
        Check.faulty(s + ": 1 and 3 at a rule", 1, most.length(), most + "do x;");
    }
}
