/**
 * Tables of rules, read from texts, judged, and turned into trees of tests and code.
 *
 * All rows are made once, in the constructor: no later call makes any but the exception that it throws.
 */
public final class RuleTables {
    public static final int NONE = -1;
    public static final int SOUND = 0, CONTRADICTION = 1, GAP = 2, TOO_BIG = 3;

    private static final int MOST_BYTES = 8000;
    private static final int MOST_CONDITIONS = 16;
    private static final int MOST_RULES = 256;
    private static final int MOST_ACTIONS = 64;
    private static final int MOST_NODES = 1000;
    private static final int LONGEST_NAME = 10;
    private static final int LETTER_BITS = 6;
    private static final long IF = 'i' - 'a' + 1 | 'f' - 'a' + 1 << LETTER_BITS;
    private static final long DO = 'd' - 'a' + 1 | 'o' - 'a' + 1 << LETTER_BITS;
    private static final int TEST_BYTES = 3;
    private static final int LEAF_MARK = 128;

    private static final int NO_FAULT = 0;
    private static final int WRONG = 1;
    private static final int TWICE = 2;
    private static final int TOO_MANY = 3;

    private final Tape tape;
    private Table table;
    // A text is read into this one, so that a fault leaves the table before as it is.
    private Table spare;
    private boolean hasTable;
    private int latestFault;
    private int firstAmiss;
    private int secondAmiss;
    private int caseAmiss;
    private final Way way;
    private final Tree tree;
    private final Code code;

    public RuleTables() {
        tape = new Tape();
        table = new Table();
        spare = new Table();
        way = new Way();
        tree = new Tree();
        code = new Code();
    }

    public int type(long bytes, int n) throws IllegalArgumentException, UnsupportedOperationException {
        if (n < 1 || n > 8) {
            throw new IllegalArgumentException("n is not 1 .. 8");
        }
        if (tape.length + n > MOST_BYTES) {
            throw new UnsupportedOperationException("the tape would be too long");
        }
        for (int i = n - 1; i >= 0; i--) {
            tape.append((int) (bytes >>> 8 * i) & 255);
        }
        return tape.length;
    }

    public void keep(int n) throws IllegalArgumentException {
        if (n < 0 || n > tape.length) {
            throw new IllegalArgumentException("the tape has not so many bytes");
        }
        tape.length = n;
    }

    public int read() {
        boolean isText = tape.parse(spare);
        tape.length = 0;
        latestFault = tape.fault;
        if (!isText) {
            return -1 - tape.faultPlace;
        }
        Table before = table;
        table = spare;
        spare = before;
        hasTable = true;
        return judge();
    }

    public int fault() {
        return latestFault;
    }

    public int amiss(int what) throws IllegalStateException, IndexOutOfBoundsException {
        needTable();
        switch (what) {
            case 0:
                return firstAmiss;
            case 1:
                return secondAmiss;
            case 2:
                return caseAmiss;
            default:
                throw new IndexOutOfBoundsException("no such what");
        }
    }

    public int count(int what) throws IndexOutOfBoundsException {
        switch (what) {
            case 0:
                return hasTable ? table.conditions.size : 0;
            case 1:
                return hasTable ? table.rules : 0;
            case 2:
                return hasTable ? table.actions.size : 0;
            case 3:
                return tree.size;
            case 4:
                return tree.leaves;
            case 5:
                return code.length;
            case 6:
                return tree.mostTests;
            case 7:
                return tape.length;
            default:
                throw new IndexOutOfBoundsException("no such what");
        }
    }

    public int rule(int r, int c) throws IndexOutOfBoundsException {
        if (!hasTable || r < 0 || r >= table.rules) {
            throw new IndexOutOfBoundsException("no such rule");
        }
        if (c == NONE) {
            return table.action[r];
        }
        if (c < 0 || c >= table.conditions.size) {
            throw new IndexOutOfBoundsException("no such condition");
        }
        return table.markOf(r, 1 << c);
    }

    public int name(boolean action, int k, int i) throws IndexOutOfBoundsException {
        Names names = action ? table.actions : table.conditions;
        if (!hasTable || k < 0 || k >= names.size) {
            throw new IndexOutOfBoundsException("no such condition or action");
        }
        int length = names.lengthOf(k);
        if (i == NONE) {
            return length;
        }
        if (i < 0 || i >= length) {
            throw new IndexOutOfBoundsException("no such place in the name");
        }
        return names.byteOf(k, i);
    }

    public int meets(int theCase) throws IllegalStateException, IndexOutOfBoundsException {
        needTable();
        needCase(theCase);
        return table.firstThatMeets(theCase);
    }

    public int cases(int k) throws IllegalStateException, IndexOutOfBoundsException {
        needTable();
        if (k < NONE || k >= table.actions.size) {
            throw new IndexOutOfBoundsException("no such action");
        }
        way.start(table, k);
        int met = way.casesMet();
        return k == NONE ? table.caseCount() - met : met;
    }

    public int node(int k, int what) throws IllegalStateException, IndexOutOfBoundsException {
        needTree();
        if (k < 0 || k >= tree.size) {
            throw new IndexOutOfBoundsException("no such node");
        }
        switch (what) {
            case 0:
                return tree.isLeaf(k) ? NONE : tree.heads[k];
            case 1:
                // The nodes where a condition holds stand right behind its test.
                return tree.isLeaf(k) ? NONE : k + 1;
            case 2:
                return tree.otherwise[k];
            case 3:
                return tree.isLeaf(k) ? tree.heads[k] - LEAF_MARK : NONE;
            default:
                throw new IndexOutOfBoundsException("no such what");
        }
    }

    public int code(int i) throws IllegalStateException, IndexOutOfBoundsException {
        needTree();
        if (i < 0 || i >= code.length) {
            throw new IndexOutOfBoundsException("no such place in the code");
        }
        return code.bytes[i];
    }

    public int run(int theCase, boolean tests) throws IllegalStateException, IndexOutOfBoundsException {
        needTree();
        needCase(theCase);
        return code.follow(theCase, tests);
    }

    public long tests() throws IllegalStateException {
        needTree();
        return tree.allTests;
    }

    private void needTable() {
        if (!hasTable) {
            throw new IllegalStateException("no table");
        }
    }

    private void needTree() {
        if (tree.size == 0) {
            throw new IllegalStateException("no tree");
        }
    }

    private void needCase(int theCase) {
        if (theCase < 0 || theCase >= table.caseCount()) {
            throw new IndexOutOfBoundsException("no such case");
        }
    }

    /** What the table is; its tree is built, if it can have one. */
    private int judge() {
        tree.clear();
        int verdict = findAmiss();
        if (verdict == SOUND) {
            tree.build(way);
            verdict = tree.size == 0 ? TOO_BIG : SOUND;
        }
        code.write(tree);
        return verdict;
    }

    private int findAmiss() {
        firstAmiss = NONE;
        secondAmiss = NONE;
        if (findContradiction()) {
            return CONTRADICTION;
        }
        way.start(table, NONE);
        caseAmiss = way.leastGap();
        return caseAmiss == NONE ? SOUND : GAP;
    }

    private boolean findContradiction() {
        for (int i = 0; i < table.rules; i++) {
            for (int j = i + 1; j < table.rules; j++) {
                if (table.contradict(i, j)) {
                    firstAmiss = i;
                    secondAmiss = j;
                    caseAmiss = table.yes[i] | table.yes[j];
                    return true;
                }
            }
        }
        return false;
    }

    /**
     * Names in the order of their numbers, each in one number: six bits a letter, the first letter lowest;
     * 1 to 26 are the letters, 27 to 36 the digits, 0 is behind the name's end.
     */
    private static final class Names {
        private final long[] names;
        int size;

        Names(int most) {
            names = new long[most];
        }

        static int letterOf(int b) {
            if (b >= 'a' && b <= 'z') {
                return b - 'a' + 1;
            }
            return b >= '0' && b <= '9' ? b - '0' + 27 : 0;
        }

        int find(long name) {
            for (int k = 0; k < size; k++) {
                if (names[k] == name) {
                    return k;
                }
            }
            return NONE;
        }

        /** Puts a name behind the others, if there is room: whether there was. */
        boolean add(long name) {
            if (size >= names.length) {
                return false;
            }
            names[size] = name;
            size++;
            return true;
        }

        private int letterAt(int k, int i) {
            return (int) (names[k] >>> LETTER_BITS * i) & 63;
        }

        int lengthOf(int k) {
            int length = 0;
            while (length < LONGEST_NAME && letterAt(k, length) != 0) {
                length++;
            }
            return length;
        }

        int byteOf(int k, int i) {
            int letter = letterAt(k, i);
            return letter <= 26 ? 'a' + letter - 1 : '0' + letter - 27;
        }
    }

    /** Conditions, actions and rules; the marks of a rule are two sets of bits, bit c for condition c. */
    private static final class Table {
        final Names conditions = new Names(MOST_CONDITIONS);
        final Names actions = new Names(MOST_ACTIONS);
        final int[] yes = new int[MOST_RULES];
        final int[] no = new int[MOST_RULES];
        final int[] action = new int[MOST_RULES];
        int rules;

        void clear() {
            conditions.size = 0;
            actions.size = 0;
            rules = 0;
        }

        /** The caller has seen that there is room. */
        void add(int yesBits, int noBits, int itsAction) {
            yes[rules] = yesBits;
            no[rules] = noBits;
            action[rules] = itsAction;
            rules++;
        }

        int caseCount() {
            return 1 << conditions.size;
        }

        int markOf(int r, int bit) {
            if ((yes[r] & bit) != 0) {
                return 1;
            }
            return (no[r] & bit) != 0 ? 0 : 2;
        }

        int firstThatMeets(int theCase) {
            for (int r = 0; r < rules; r++) {
                if ((theCase & yes[r]) == yes[r] && (theCase & no[r]) == 0) {
                    return r;
                }
            }
            return NONE;
        }

        boolean contradict(int i, int j) {
            return action[i] != action[j] && (yes[i] & no[j]) == 0 && (no[i] & yes[j]) == 0;
        }
    }

    /** The tape; it is read from the left: each pass.. method goes behind one part, or tells a fault. */
    private static final class Tape {
        // Eight bytes in each, the first lowest: all objects of a run share one room.
        private final long[] words = new long[MOST_BYTES / 8];
        int length;
        private int at;
        private int nameFrom;
        private long name;
        int fault;
        int faultPlace;

        /** The caller has seen that there is room. */
        void append(int b) {
            int shift = 8 * (length & 7);
            long others = words[length >> 3] & ~(255L << shift);
            words[length >> 3] = others | (long) b << shift;
            length++;
        }

        private int byteAt(int place) {
            return (int) (words[place >> 3] >>> 8 * (place & 7)) & 255;
        }

        boolean parse(Table into) {
            at = 0;
            fault = NO_FAULT;
            into.clear();
            return passName() && isWord(IF) && passConditions(into) && passRules(into);
        }

        private boolean fail(int what, int place) {
            fault = what;
            faultPlace = place;
            return false;
        }

        /** Goes to the next byte that is not blank and tells it; NONE: the tape ends. */
        private int look() {
            while (at < length) {
                int b = byteAt(at);
                if (b != 9 && b != 10 && b != 13 && b != 32) {
                    return b;
                }
                at++;
            }
            return NONE;
        }

        private boolean passByte(int due) {
            if (look() != due) {
                return fail(WRONG, at);
            }
            at++;
            return true;
        }

        private boolean passName() {
            int first = look();
            if (first < 'a' || first > 'z') {
                return fail(WRONG, at);
            }
            nameFrom = at;
            name = 0;
            while (at < length && Names.letterOf(byteAt(at)) != 0) {
                if (at - nameFrom < LONGEST_NAME) {
                    name |= (long) Names.letterOf(byteAt(at)) << LETTER_BITS * (at - nameFrom);
                }
                at++;
            }
            return at - nameFrom <= LONGEST_NAME || fail(WRONG, nameFrom);
        }

        /** Whether the name just passed is the word that it must be. */
        private boolean isWord(long word) {
            return name == word || fail(WRONG, nameFrom);
        }

        private boolean passConditions(Table into) {
            for (int c = 0; c <= MOST_CONDITIONS; c++) {
                if (!passCondition(into.conditions)) {
                    return false;
                }
                if (look() != ',') {
                    return passByte(';');
                }
                at++;
            }
            return fail(TOO_MANY, nameFrom);
        }

        private boolean passCondition(Names conditions) {
            if (!passName()) {
                return false;
            }
            if (conditions.find(name) != NONE) {
                return fail(TWICE, nameFrom);
            }
            return conditions.add(name) || fail(TOO_MANY, nameFrom);
        }

        private boolean passRules(Table into) {
            for (int r = 0; r <= MOST_RULES; r++) {
                if (r > 0 && look() == NONE) {
                    return true;
                }
                if (!passRule(into)) {
                    return false;
                }
            }
            return fail(TOO_MANY, at);
        }

        private boolean passRule(Table into) {
            int yes = 0;
            int no = 0;
            for (int c = 0; c < into.conditions.size; c++) {
                int mark = look();
                if (mark != 'Y' && mark != 'N' && mark != '-') {
                    return fail(WRONG, at);
                }
                if (into.rules >= MOST_RULES) {
                    return fail(TOO_MANY, at);
                }
                yes |= mark == 'Y' ? 1 << c : 0;
                no |= mark == 'N' ? 1 << c : 0;
                at++;
            }
            if (!passName() || !isWord(DO) || !passAction(into.actions)) {
                return false;
            }
            into.add(yes, no, into.actions.find(name));
            return passByte(';');
        }

        private boolean passAction(Names actions) {
            if (!passName()) {
                return false;
            }
            return actions.find(name) != NONE || actions.add(name) || fail(TOO_MANY, nameFrom);
        }
    }

    /**
     * The way from the first place, where all rules of interest stand, to another one: for each depth the
     * rules that can meet there. OPEN is the set of conditions that were not tested on the way.
     */
    private static final class Way {
        private final int[] yes = new int[MOST_RULES];
        private final int[] no = new int[MOST_RULES];
        private final int[] action = new int[MOST_RULES];
        int allOpen;
        private final int[][] lists = new int[MOST_CONDITIONS + 1][MOST_RULES];
        private final int[] sizes = new int[MOST_CONDITIONS + 1];
        private final int[] blanks = new int[MOST_CONDITIONS];
        private final int[] differences = new int[MOST_CONDITIONS];

        /** The first place: the rules with an action, or all (NONE). */
        void start(Table table, int itsAction) {
            allOpen = table.caseCount() - 1;
            int size = 0;
            for (int r = 0; r < table.rules; r++) {
                if (itsAction == NONE || table.action[r] == itsAction) {
                    yes[size] = table.yes[r];
                    no[size] = table.no[r];
                    action[size] = table.action[r];
                    lists[0][size] = size;
                    size++;
                }
            }
            sizes[0] = size;
        }

        /** Makes the place one deeper: where the condition of a bit holds, or does not. */
        void step(int depth, int bit, boolean holds) {
            int[] from = lists[depth];
            int[] to = lists[depth + 1];
            int[] against = holds ? no : yes;
            int size = 0;
            for (int i = 0; i < sizes[depth]; i++) {
                if ((against[from[i]] & bit) == 0) {
                    to[size] = from[i];
                    size++;
                }
            }
            sizes[depth + 1] = size;
        }

        /** The greatest open condition that a rule here has marked, as a bit; 0: some rule meets all cases here. */
        private int splittingBit(int depth, int open) {
            int marked = 0;
            for (int i = 0; i < sizes[depth]; i++) {
                int r = lists[depth][i];
                int marks = (yes[r] | no[r]) & open;
                if (marks == 0) {
                    return 0;
                }
                marked |= marks;
            }
            int bit = 1 << (MOST_CONDITIONS - 1);
            while (bit > 0 && (marked & bit) == 0) {
                bit >>= 1;
            }
            return bit;
        }

        int leastGap() {
            return leastGapFrom(this, 0, allOpen, 0);
        }

        /**
         * The least case that none of the rules here meets, or NONE; so far tells what holds on the way.
         * The conditions above the one that splits do not matter to these rules, so the least case has 0 there.
         */
        private static int leastGapFrom(Way way, int depth, int open, int soFar) {
            if (way.sizes[depth] == 0) {
                return soFar;
            }
            int bit = way.splittingBit(depth, open);
            if (bit == 0 || depth >= MOST_CONDITIONS) {
                return NONE;
            }
            way.step(depth, bit, false);
            int gap = leastGapFrom(way, depth + 1, open & ~bit, soFar);
            if (gap != NONE) {
                return gap;
            }
            way.step(depth, bit, true);
            return leastGapFrom(way, depth + 1, open & ~bit, soFar | bit);
        }

        int casesMet() {
            return casesMetFrom(this, 0, allOpen);
        }

        private static int casesMetFrom(Way way, int depth, int open) {
            if (way.sizes[depth] == 0) {
                return 0;
            }
            int bit = way.splittingBit(depth, open);
            if (bit == 0 || depth >= MOST_CONDITIONS) {
                return 1 << Integer.bitCount(open);
            }
            way.step(depth, bit, true);
            int met = casesMetFrom(way, depth + 1, open & ~bit);
            way.step(depth, bit, false);
            return met + casesMetFrom(way, depth + 1, open & ~bit);
        }

        /** The action of all rules here; NONE: they have several. */
        int oneAction(int depth) {
            int first = action[lists[depth][0]];
            for (int i = 1; i < sizes[depth]; i++) {
                if (action[lists[depth][i]] != first) {
                    return NONE;
                }
            }
            return first;
        }

        /** The condition that is to be tested here, where one at least is open. */
        int choose(int depth, int open) {
            weigh(depth, open);
            int best = NONE;
            for (int c = 0; c < MOST_CONDITIONS; c++) {
                if ((open & 1 << c) != 0 && (best == NONE || isBetter(c, best))) {
                    best = c;
                }
            }
            return best;
        }

        private boolean isBetter(int c, int than) {
            if (blanks[c] != blanks[than]) {
                return blanks[c] < blanks[than];
            }
            return Math.abs(differences[c]) > Math.abs(differences[than]);
        }

        private void weigh(int depth, int open) {
            for (int c = 0; c < MOST_CONDITIONS; c++) {
                blanks[c] = 0;
                differences[c] = 0;
            }
            for (int i = 0; i < sizes[depth]; i++) {
                int r = lists[depth][i];
                addWeight(r, 1 << Integer.bitCount(open & ~(yes[r] | no[r])));
            }
        }

        private void addWeight(int r, int weight) {
            for (int c = 0; c < MOST_CONDITIONS; c++) {
                int bit = 1 << c;
                if ((yes[r] & bit) != 0) {
                    differences[c] += weight;
                } else if ((no[r] & bit) != 0) {
                    differences[c] -= weight;
                } else {
                    blanks[c] += weight;
                }
            }
        }
    }

    /** The nodes of a tree in their order; size 0: there is no tree. */
    private static final class Tree {
        // With which byte the code of each node begins: a condition, or LEAF_MARK and an action.
        final int[] heads = new int[MOST_NODES];
        // The node where the condition does not hold; NONE: a leaf.
        final int[] otherwise = new int[MOST_NODES];
        int size;
        int leaves;
        int mostTests;
        long allTests;
        private boolean tooBig;

        void clear() {
            size = 0;
            leaves = 0;
            mostTests = 0;
            allTests = 0;
            tooBig = false;
        }

        boolean isLeaf(int k) {
            return otherwise[k] == NONE;
        }

        /** Builds a tree where there is none; the way stands at its first place, with all rules of a sound table. */
        void build(Way way) {
            grow(this, way, 0, way.allOpen);
            if (tooBig) {
                clear();
            }
        }

        private static void grow(Tree tree, Way way, int depth, int open) {
            if (tree.tooBig || tree.size >= MOST_NODES) {
                tree.tooBig = true;
                return;
            }
            int action = way.oneAction(depth);
            // With no condition left, the rules of a sound table have one action: no way goes deeper.
            if (action != NONE || open == 0 || depth >= MOST_CONDITIONS) {
                tree.addLeaf(action, depth);
                return;
            }
            int c = way.choose(depth, open);
            int bit = 1 << c;
            int k = tree.size;
            tree.addNode(c);
            // Every case that agrees with the way comes to this test.
            tree.allTests += 1L << Integer.bitCount(open);
            way.step(depth, bit, true);
            grow(tree, way, depth + 1, open & ~bit);
            tree.otherwise[k] = tree.size;
            way.step(depth, bit, false);
            grow(tree, way, depth + 1, open & ~bit);
        }

        private void addLeaf(int action, int depth) {
            addNode(LEAF_MARK + action);
            leaves++;
            mostTests = Math.max(mostTests, depth);
        }

        /** The caller has seen that there is room. */
        private void addNode(int head) {
            heads[size] = head;
            otherwise[size] = NONE;
            size++;
        }
    }

    /** The code of a tree; length 0: there is none. */
    private static final class Code {
        // A tree has one leaf more than it has tests, so there are fewer than two bytes a node.
        final int[] bytes = new int[2 * MOST_NODES];
        private final int[] places = new int[MOST_NODES];
        int length;

        void write(Tree tree) {
            setPlaces(tree);
            length = 0;
            for (int k = 0; k < tree.size; k++) {
                append(tree.heads[k]);
                if (!tree.isLeaf(k)) {
                    int place = places[tree.otherwise[k]];
                    append(place >> 8);
                    append(place & 255);
                }
            }
        }

        private void setPlaces(Tree tree) {
            int place = 0;
            for (int k = 0; k < tree.size; k++) {
                places[k] = place;
                place += tree.isLeaf(k) ? 1 : TEST_BYTES;
            }
        }

        private void append(int b) {
            if (length < bytes.length) {
                bytes[length] = b;
                length++;
            }
        }

        /** Runs the code for a case: the action, or the number of tests. */
        int follow(int theCase, boolean wantsTests) {
            int place = 0;
            int done = 0;
            while (done < MOST_CONDITIONS && place + 2 < length && bytes[place] < LEAF_MARK) {
                boolean holds = (theCase >> bytes[place] & 1) != 0;
                place = holds ? place + TEST_BYTES : bytes[place + 1] << 8 | bytes[place + 2];
                done++;
            }
            if (wantsTests) {
                return done;
            }
            return place < length ? bytes[place] - LEAF_MARK : NONE;
        }
    }
}
