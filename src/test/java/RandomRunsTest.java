/** Runs of at most 512 calls by chance, each answer compared with the one of the plain model. */
public final class RandomRunsTest {
    private static final int[] EDGES = {-1, -2, Integer.MAX_VALUE, Integer.MIN_VALUE, 0, 1, 2, 3, 7, 8, 16, 64, 256, 65535, 65536};

    private final Texts chance;
    private final RuleTables real = new RuleTables();
    private final Model model = new Model();
    private final int run;
    private int calls = 0;
    private final int[] verdicts;

    private RandomRunsTest(int run, int[] verdicts) {
        this.run = run;
        this.verdicts = verdicts;
        chance = new Texts(run * 7919L + 17);
    }

    public static void main(String[] args) {
        int[] verdicts = new int[5];
        for (int run = 0; run < 600; run++) {
            new RandomRunsTest(run, verdicts).go(run % 20 == 0 ? 9 : run % 3 == 0 ? 3 : 6);
        }
        for (int v : new int[] {RuleTables.SOUND, RuleTables.CONTRADICTION, RuleTables.GAP, 4}) {
            Check.same("the runs have enough of verdict " + v, "" + (verdicts[v] > 100), "true");
        }
        Check.end();
    }

    private void same(String call, Check.Call got, Check.Call due) {
        calls++;
        Check.same("run " + run + ", call " + calls + ": " + call, Check.answerOf(got), Check.answerOf(due));
    }

    private void go(int mostConditions) {
        ask(12);
        while (calls < 512) {
            String text = chance.table(mostConditions);
            if (chance.oneOf(3)) {
                text = chance.spoilt(text);
            }
            typed(text);
            if (chance.oneOf(3)) {
                ask(5);
            }
            if (calls < 512) {
                readBoth();
            }
            ask(20 + chance.below(40));
        }
    }

    private void typed(String text) {
        int from = 0;
        if (chance.oneOf(4)) {
            type(chance.below(1 << 30) * 12345678912L, chance.below(11) - 1);
            keep(chance.below(3) - 1);
            keep(0);
        }
        while (from < text.length()) {
            int n = Math.min(chance.oneOf(3) ? 1 + chance.below(8) : 8, text.length() - from);
            // What stands above the lowest n bytes does not matter.
            long above = n == 8 ? 0 : (long) chance.below(1 << 30) << 8 * n;
            type(above | Check.packed(text, from, n), n);
            from += n;
        }
    }

    private void type(long bytes, int n) {
        if (calls < 512) {
            same("type(" + bytes + ", " + n + ")", () -> real.type(bytes, n), () -> model.type(bytes, n));
        }
    }

    private void keep(int n) {
        if (calls < 512) {
            same("keep(" + n + ")", () -> {
                real.keep(n);
                return 0;
            }, () -> {
                model.keep(n);
                return 0;
            });
        }
    }

    private void readBoth() {
        int due = model.read();
        verdicts[due < 0 ? 4 : due]++;
        same("read()", real::read, () -> due);
    }

    private int number(int usual) {
        return chance.oneOf(8) ? EDGES[chance.below(EDGES.length)] : chance.below(usual + 2) - 1;
    }

    private void ask(int times) {
        for (int i = 0; i < times && calls < 512; i++) {
            askOne(chance.below(13));
        }
    }

    private void askOne(int which) {
        int conditions = model.count(0);
        int cases = number(1 << conditions);
        int what = number(8);
        int k = number(Math.max(model.count(3), 1));
        boolean flag = chance.oneOf(2);
        int r = number(model.count(1));
        int c = number(conditions);
        int a = number(model.count(2));
        int i = number(chance.oneOf(3) ? 11 : 2);
        int place = number(model.count(5));
        switch (which) {
            case 0 -> same("fault()", real::fault, model::fault);
            case 1 -> same("amiss(" + what + ")", () -> real.amiss(what), () -> model.amiss(what));
            case 2 -> same("count(" + what + ")", () -> real.count(what), () -> model.count(what));
            case 3 -> same("rule(" + r + ", " + c + ")", () -> real.rule(r, c), () -> model.rule(r, c));
            case 4 -> {
                int n = flag ? a : c;
                same("name(" + flag + ", " + n + ", " + i + ")", () -> real.name(flag, n, i), () -> model.name(flag, n, i));
            }
            case 5 -> same("meets(" + cases + ")", () -> real.meets(cases), () -> model.meets(cases));
            case 6 -> same("cases(" + a + ")", () -> real.cases(a), () -> model.cases(a));
            case 7, 8 -> {
                int w = chance.oneOf(5) ? what : chance.below(4);
                same("node(" + k + ", " + w + ")", () -> real.node(k, w), () -> model.node(k, w));
            }
            case 9 -> same("code(" + place + ")", () -> real.code(place), () -> model.code(place));
            case 10 -> same("run(" + cases + ", " + flag + ")", () -> real.run(cases, flag), () -> model.run(cases, flag));
            case 11 -> same("tests()", real::tests, model::tests);
            default -> {
                if (chance.oneOf(20)) {
                    keep(number(model.count(7)));
                } else if (chance.oneOf(10)) {
                    readBoth();
                }
            }
        }
    }
}
