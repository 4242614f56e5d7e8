import java.io.IOException;
import java.nio.file.Files;
import java.nio.file.Path;
import java.util.HashSet;
import java.util.Set;
import java.util.regex.Matcher;
import java.util.regex.Pattern;

/** The calls in README.md answer what it says behind them, and there is one of every method. */
public final class ReadmeTest {
    private static final Pattern CALL = Pattern.compile("x\\.(\\w+)\\((-?\\d+)(?:, (-?\\d+))?\\); +// (-?\\d+)(?:: .*)?");

    public static void main(String[] args) throws IOException {
        Checks c = new Checks();
        CausalObjects x = new CausalObjects();
        Set<String> called = new HashSet<>();
        for (String line : Files.readAllLines(Path.of("README.md"))) {
            if (!line.startsWith("x.")) {
                continue;
            }
            Matcher call = CALL.matcher(line);
            boolean reads = call.matches();
            c.holds("a call with its answer: " + line, reads);
            if (reads) {
                int second = call.group(3) == null ? 0 : Integer.parseInt(call.group(3));
                int got = Pair.callOf(x, call.group(1), Integer.parseInt(call.group(2)), second);
                c.due(line, got, Integer.parseInt(call.group(4)));
                called.add(call.group(1));
            }
        }
        c.holds("every method is called: " + called, called.containsAll(Pair.METHODS));
        c.end();
    }
}
