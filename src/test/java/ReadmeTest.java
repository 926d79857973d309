import java.io.IOException;
import java.nio.charset.StandardCharsets;
import java.nio.file.Files;
import java.nio.file.Path;
import java.util.ArrayList;
import java.util.List;

/** The example of README.md: its calls, in their order, with the answers that stand behind them. */
public final class ReadmeTest {
    private static final List<String> SHOWN = new ArrayList<>();
    private static int at = 0;

    private ReadmeTest() {
    }

    public static void main(String[] args) throws IOException {
        readExample();
        QuakeLink link = new QuakeLink();
        answers("link.samples(0, 22, 7, 3, 0)", link.samples(0, 22, 7, 3, 0));
        answers("link.flush(0)", link.flush(0));
        link.quality(40);
        tells("link.quality(40)");
        answers("link.samples(0, 5, -1, 9, 1)", link.samples(0, 5, -1, 9, 1));
        answers("link.flush(0)", link.flush(0));
        answers("link.samples(0, 3, 1, 1, 0)", link.samples(0, 3, 1, 1, 0));
        answers("link.flush(0)", link.flush(0));

        int first = link.turn();
        answers("int first = link.turn()", first);
        int second = link.turn();
        answers("int second = link.turn()", second);
        int third = link.turn();
        answers("int third = link.turn()", third);
        answers("link.deliver(first)", link.deliver(first));
        link.lose(second);
        tells("link.lose(second)");
        answers("link.deliver(third)", link.deliver(third));
        answers("link.gaps(0)", link.gaps(0));
        answers("link.gap(0, 0, false)", link.gap(0, 0, false));
        answers("link.gap(0, 0, true)", link.gap(0, 0, true));

        int request = link.ask();
        answers("int request = link.ask()", request);
        answers("link.hear(request)", link.hear(request));
        int again = link.turn();
        answers("int again = link.turn()", again);
        link.spoil(again, 20, 1);
        tells("link.spoil(again, 20, 1)");
        answers("link.deliver(again)", link.deliver(again));
        link.spoil(again, 20, 1);
        tells("link.spoil(again, 20, 1)");
        answers("link.deliver(again)", link.deliver(again));
        answers("link.at(0, 23)", link.at(0, 23));
        answers("link.qualityAt(0, 23)", link.qualityAt(0, 23));
        answers("link.ask()", link.ask());
        Checks.due("lines of the example that are not tried", SHOWN.size() - at, 0);
        Checks.end();
    }

    private static void readExample() throws IOException {
        boolean inside = false;
        for (String line : Files.readAllLines(Path.of("README.md"), StandardCharsets.UTF_8)) {
            if (line.startsWith("```")) {
                inside = line.equals("```java");
            } else if (inside && line.contains("; ")) {
                SHOWN.add(line);
            }
        }
    }

    private static String nextLine() {
        at++;
        return at <= SHOWN.size() ? SHOWN.get(at - 1) : "no line";
    }

    private static void tells(String call) {
        String line = nextLine();
        Checks.due("README.md: " + line, line.startsWith(call + "; "), true);
    }

    /** The answer stands first in the line's comment. */
    private static void answers(String call, int got) {
        String line = nextLine();
        Checks.due("README.md: " + line, line.matches("\\Q" + call + ";\\E +// " + got + "(:.*)?"), true);
    }
}
