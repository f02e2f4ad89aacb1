/** What an object answers to calls that change nothing, as one text; of long rows the beginning and the end. */
final class Answers {
    private static final int SOME = 5;

    private final StringBuilder text = new StringBuilder();

    private Answers() {
    }

    /** Of the tape, the latest fault and the table. */
    static String of(RuleTables x) {
        return "fault=" + x.fault() + " tape=" + x.count(7) + " " + ofTable(x);
    }

    /** Some 150 calls at most. */
    static String ofTable(RuleTables x) {
        Answers all = new Answers();
        all.numbers(x);
        all.rules(x);
        all.names(x, false, x.count(0));
        all.names(x, true, x.count(2));
        all.cases(x);
        all.tree(x);
        return all.text.toString();
    }

    private void add(String name, Check.Call call) {
        text.append(name).append('=').append(Check.answerOf(call)).append(' ');
    }

    /** The first numbers below n, and the last. */
    private static int[] some(int n) {
        int[] all = new int[Math.min(n, SOME)];
        for (int i = 0; i < all.length; i++) {
            all[i] = i == all.length - 1 ? n - 1 : i;
        }
        return all;
    }

    private void numbers(RuleTables x) {
        for (int what = 0; what < 7; what++) {
            int w = what;
            add("count" + what, () -> x.count(w));
        }
        for (int what = 0; what < 3; what++) {
            int w = what;
            add("amiss" + what, () -> x.amiss(w));
        }
    }

    private void rules(RuleTables x) {
        int conditions = x.count(0);
        for (int r : some(x.count(1))) {
            add("action of rule" + r, () -> x.rule(r, RuleTables.NONE));
            for (int c : some(conditions)) {
                add("rule" + r + "," + c, () -> x.rule(r, c));
            }
        }
    }

    private void names(RuleTables x, boolean action, int n) {
        for (int k : some(n)) {
            add("name" + k, () -> x.name(action, k, RuleTables.NONE));
            for (int i : some(x.name(action, k, RuleTables.NONE))) {
                add("name" + k + "," + i, () -> x.name(action, k, i));
            }
        }
    }

    private void cases(RuleTables x) {
        for (int i : some(1 << x.count(0))) {
            add("meets" + i, () -> x.meets(i));
            add("run" + i, () -> x.run(i, false));
            add("tests" + i, () -> x.run(i, true));
        }
        add("cases of none", () -> x.cases(RuleTables.NONE));
        for (int k : some(x.count(2))) {
            add("cases" + k, () -> x.cases(k));
        }
    }

    private void tree(RuleTables x) {
        add("tests", x::tests);
        for (int k : some(Math.max(1, x.count(3)))) {
            for (int what = 0; what < 4; what++) {
                int w = what;
                add("node" + k + "," + what, () -> x.node(k, w));
            }
        }
        for (int i : some(Math.max(1, x.count(5)))) {
            add("code" + i, () -> x.code(i));
        }
    }
}
