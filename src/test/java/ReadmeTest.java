import java.io.IOException;
import java.lang.reflect.Method;
import java.lang.reflect.Modifier;
import java.nio.file.DirectoryStream;
import java.nio.file.Files;
import java.nio.file.Path;
import java.util.List;
import java.util.regex.Matcher;
import java.util.regex.Pattern;

/** README.md says how to use the class and how to run its tests, and what it says is so. */
public final class ReadmeTest {
    private static final Check CHECK = new Check();
    /** A call with its answer behind it, as in: session.code(); // 32: there is no such entry */
    private static final Pattern CALL =
            Pattern.compile("session\\.(\\w+)\\(([^)]*)\\);\\s*// (-?\\w+):.*");

    public static void main(String[] args) throws IOException {
        Path root = Path.of(args.length > 0 ? args[0] : ".");
        String readme = Files.readString(root.resolve("README.md"));
        List<String> lines = readme.lines().toList();
        CHECK.same("calls in README.md", calls(lines), 6);
        CHECK.same("messages in README.md", messages(lines), 4);
        namesEveryCall(readme);
        namesEveryTest(readme, root);
        CHECK.holds("README.md tells the command that runs all tests", readme.contains(".ci/run"));
        CHECK.finish();
    }

    private static int calls(List<String> lines) {
        DirectorySession session = new DirectorySession();
        int count = 0;
        for (String line : lines) {
            Matcher call = CALL.matcher(line);
            if (call.matches()) {
                count++;
                long got = answer(session, call.group(1), call.group(2).split(", "));
                CHECK.same(line, got, number(call.group(3)));
            }
        }
        return count;
    }

    private static long answer(DirectorySession session, String name, String[] given) {
        switch (name) {
            case "feed":
                return session.feed(number(given[0]), (int) number(given[1]));
            case "code":
                return session.code();
            case "length":
                return session.length();
            case "output":
                return session.output((int) number(given[0]));
            default:
                throw new IllegalStateException("README.md has a call that is not known: " + name);
        }
    }

    private static long number(String written) {
        return Long.decode(written.endsWith("L")
                ? written.substring(0, written.length() - 1) : written);
    }

    private static int messages(List<String> lines) {
        DirectorySession session = new DirectorySession();
        int count = 0;
        for (String line : lines) {
            if (line.startsWith("> ")) {
                count++;
                CHECK.same("messages done by " + line, Wire.feed(session, unhex(line)), 1);
            } else if (line.startsWith("< ")) {
                CHECK.same("the output in README.md", "< " + Wire.outputHex(session), line);
            }
        }
        CHECK.holds("the run ends with a closed session", !session.open());
        return count;
    }

    private static byte[] unhex(String line) {
        String[] pairs = line.substring(2).split(" ");
        byte[] all = new byte[pairs.length];
        for (int k = 0; k < all.length; k++) {
            all[k] = (byte) Integer.parseInt(pairs[k], 16);
        }
        return all;
    }

    private static void namesEveryCall(String readme) {
        for (Method method : DirectorySession.class.getDeclaredMethods()) {
            if (Modifier.isPublic(method.getModifiers())) {
                CHECK.holds("README.md tells of " + method,
                        readme.contains("`" + method.getName() + "("));
            }
        }
    }

    private static void namesEveryTest(String readme, Path root) throws IOException {
        Path tests = root.resolve("src/test/java");
        try (DirectoryStream<Path> files = Files.newDirectoryStream(tests, "*.java")) {
            for (Path file : files) {
                String name = file.getFileName().toString().replace(".java", "");
                CHECK.holds("README.md tells of " + name, readme.contains("`" + name + "`"));
            }
        }
    }
}
