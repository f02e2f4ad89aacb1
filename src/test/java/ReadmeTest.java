import java.io.IOException;
import java.nio.file.Files;
import java.nio.file.Path;

/** README.md tells how to use the class: its example answers what stands there. It runs where README.md is. */
public final class ReadmeTest {
    private static String readme;

    public static void main(String[] args) throws IOException {
        readme = Files.readString(Path.of("README.md"));
        RuleTables x = new RuleTables();
        typed(x, "if a, b; Y- do x; NY do y; NN do x;");
        told("int verdict = x.read();           // 0, which is RuleTables.SOUND", 0, x::read);
        told("int action = x.run(2, false);     // 1, which is y", 1, () -> x.run(2, false));
        told("int tests = x.run(2, true);       // 2 tests were done", 2, () -> x.run(2, true));
        told("int letter = x.name(true, 1, 0);  // 121, which is the letter y", 'y', () -> x.name(true, 1, 0));
        Check.due("SOUND", 0, () -> RuleTables.SOUND);
        eachCallIsTold();
        stands(".ci/run");
        Check.end();
    }

    private static void stands(String part) {
        Check.same("README.md has " + part, "" + readme.contains(part), "true");
    }

    private static void typed(RuleTables x, String text) {
        stands("String text = \"" + text + "\";");
        stands("x.type(b, 1);");
        for (char b : text.toCharArray()) {
            x.type(b, 1);
        }
    }

    private static void told(String line, long due, Check.Call call) {
        stands(line);
        Check.due("README.md: " + line, due, call);
    }

    private static void eachCallIsTold() {
        String[] calls = {"type(bytes, n)", "keep(n)", "read()", "fault()", "amiss(what)", "count(what)", "rule(r, c)",
            "name(action, k, i)", "meets(theCase)", "cases(k)", "node(k, what)", "code(i)", "run(theCase, tests)",
            "tests()"};
        for (String call : calls) {
            stands("| `" + call + "` |");
        }
    }
}
