import java.io.IOException;
import java.nio.file.Files;
import java.nio.file.Path;
import java.util.Set;
import java.util.TreeSet;
import java.util.regex.Matcher;
import java.util.regex.Pattern;

/** README.md: its example answers as it says there, and it names every call and how to test. */
public final class ReadmeTest {
    private static final Checks CHECKS = new Checks("ReadmeTest");
    /** p.call(1, true, 2L);  // answer: why */
    private static final Pattern LINE = Pattern.compile("p\\.(\\w+)\\((.*)\\); +// (-?\\d+): .+");

    public static void main(String[] args) throws IOException {
        String text = Files.readString(Path.of("README.md"));
        example(text);
        names(text);
        CHECKS.end();
    }

    private static void example(String text) {
        String code = between(text, "```java\n", "```");
        PaperBodies x = new PaperBodies();
        int calls = 0;
        for (String line : code.split("\n")) {
            Matcher found = LINE.matcher(line);
            if (found.matches()) {
                calls++;
                long got = Calls.call(x, found.group(1), numbers(found.group(2)));
                CHECKS.due("README: " + line, got, Long.parseLong(found.group(3)));
            } else {
                boolean isOther = line.isBlank() || line.equals("PaperBodies p = new PaperBodies();");
                CHECKS.holds("README: no call: " + line, isOther);
            }
        }
        CHECKS.holds("README: an example", calls > 0);
    }

    private static long[] numbers(String arguments) {
        if (arguments.isEmpty()) {
            return new long[0];
        }
        String[] words = arguments.split(", ");
        long[] numbers = new long[words.length];
        for (int i = 0; i < words.length; i++) {
            boolean isTruth = words[i].equals("true") || words[i].equals("false");
            numbers[i] = isTruth ? (words[i].equals("true") ? 1 : 0) : Long.parseLong(words[i].replace("L", ""));
        }
        return numbers;
    }

    private static void names(String text) {
        Set<String> calls = new TreeSet<>();
        for (var method : PaperBodies.class.getMethods()) {
            if (method.getDeclaringClass() == PaperBodies.class) {
                calls.add(method.getName());
            }
        }
        String table = between(text, "The calls, by", "No call throws");
        for (String name : calls) {
            CHECKS.holds("README names " + name, table.contains("`" + name + "`"));
        }
        String tests = between(text, "## Tests", "## How it is built");
        CHECKS.holds("README tells how to test", tests.contains("    .ci/run\n"));
        for (String file : Path.of("src/test/java").toFile().list()) {
            boolean isTest = file.endsWith("Test.java");
            CHECKS.holds("README names " + file, !isTest || tests.contains("`" + file.replace(".java", "") + "`"));
        }
    }

    /** What stands between two marks; nothing, if one of them is missing. */
    private static String between(String text, String from, String to) {
        int begin = text.indexOf(from);
        int end = begin < 0 ? -1 : text.indexOf(to, begin + from.length());
        CHECKS.holds("README has " + from.strip() + " .. " + to, end >= 0);
        return end < 0 ? "" : text.substring(begin + from.length(), end);
    }
}
