import java.io.IOException;
import java.nio.file.DirectoryStream;
import java.nio.file.Files;
import java.nio.file.Path;
import java.util.List;
import java.util.Set;
import java.util.TreeSet;
import java.util.regex.Matcher;
import java.util.regex.Pattern;

/** What README.md says: the example's calls answer what is written behind them, and what it names is there. */
public final class ReadmeTest extends Sentences {
    private static final Path README = Path.of("README.md");
    private static final Path CLASS = Path.of("src", "main", "java", "RealOperations.java");
    private static final Path TESTS = Path.of("src", "test", "java");

    private static final Pattern MAKING = Pattern.compile("RealOperations x = new RealOperations\\(\\); .*");
    /** A call with an answer has the answer as the first word of its comment. */
    private static final Pattern ANSWER =
            Pattern.compile("int \\w+ = x\\.(operate|part|told)\\((.*?)\\); +// (\\w+)\\b.*");
    private static final Pattern NO_ANSWER = Pattern.compile("x\\.(control|set|clear)\\((.*?)\\);.*");
    private static final Pattern ROW_OF_CALL = Pattern.compile("\\| `(\\w+)\\(.*?\\)` \\|.*");
    private static final Pattern QUOTED_TEST = Pattern.compile("`(\\w+Test)`");
    private static final Pattern QUOTED_NAME = Pattern.compile("`(\\w+)`");
    private static final Set<String> CALLS = Set.of("control", "set", "part", "operate", "told", "clear");

    public static void main(String[] args) {
        new ReadmeTest().runAlone();
    }

    @Override
    void run() {
        try {
            List<String> lines = Files.readAllLines(README);
            example(between(lines, "```java", "```"));
            tableOfCalls(between(lines, "## Use", "## How it works"));
            namesInTheClass(between(lines, "## How it works", "## Tests"));
            tableOfTests(lines.subList(lines.indexOf("## Tests"), lines.size()));
        } catch (IOException e) {
            same("reading " + README + " and what it names", e.toString(), "no exception");
        }
    }

    private static List<String> between(List<String> lines, String before, String behind) {
        List<String> rest = lines.subList(lines.indexOf(before) + 1, lines.size());
        return rest.subList(0, rest.indexOf(behind));
    }

    private void example(List<String> lines) {
        TreeSet<String> made = new TreeSet<>();
        RealOperations x = null;
        for (String line : lines) {
            Matcher answer = ANSWER.matcher(line);
            Matcher noAnswer = NO_ANSWER.matcher(line);
            if (MAKING.matcher(line).matches()) {
                x = new RealOperations();
            } else if (answer.matches()) {
                made.add(answer.group(1));
                same(line, call(x, answer.group(1), numbers(answer.group(2))), number(answer.group(3)));
            } else if (noAnswer.matches()) {
                made.add(noAnswer.group(1));
                call(x, noAnswer.group(1), numbers(noAnswer.group(2)));
            } else {
                same("a line of the example", line, "one of a form that is known here");
            }
        }
        same("the calls of the example", made.toString(), new TreeSet<>(CALLS).toString());
    }

    private static int call(RealOperations x, String name, int[] n) {
        switch (name) {
            case "control":
                x.control(n[0]);
                return 0;
            case "set":
                x.set(n[0], n[1], n[2], n[3]);
                return 0;
            case "part":
                return x.part(n[0], n[1]);
            case "operate":
                return x.operate(n[0], n[1], n[2], n[3]);
            case "told":
                return x.told();
            default:
                x.clear();
                return 0;
        }
    }

    private static int[] numbers(String list) {
        if (list.isEmpty()) {
            return new int[0];
        }
        String[] words = list.split(", ");
        int[] numbers = new int[words.length];
        for (int i = 0; i < words.length; i++) {
            numbers[i] = number(words[i]);
        }
        return numbers;
    }

    private static int number(String word) {
        return Long.decode(word).intValue();
    }

    private void tableOfCalls(List<String> lines) {
        TreeSet<String> named = new TreeSet<>();
        for (String line : lines) {
            Matcher row = ROW_OF_CALL.matcher(line);
            if (row.matches()) {
                named.add(row.group(1));
            }
        }
        same("the table of calls", named.toString(), new TreeSet<>(CALLS).toString());
    }

    private void namesInTheClass(List<String> lines) throws IOException {
        String text = Files.readString(CLASS);
        for (String line : lines) {
            Matcher quoted = QUOTED_NAME.matcher(line);
            while (quoted.find()) {
                boolean isThere = Pattern.compile("\\b" + quoted.group(1) + "\\b").matcher(text).find();
                same(quoted.group(1) + " in the class", isThere ? "is there" : "is not there", "is there");
            }
        }
    }

    private void tableOfTests(List<String> lines) throws IOException {
        TreeSet<String> named = new TreeSet<>();
        for (String line : lines) {
            Matcher quoted = QUOTED_TEST.matcher(line.startsWith("| ") ? line : "");
            while (quoted.find()) {
                named.add(quoted.group(1));
            }
        }
        TreeSet<String> there = new TreeSet<>();
        try (DirectoryStream<Path> files = Files.newDirectoryStream(TESTS, "*Test.java")) {
            for (Path file : files) {
                there.add(file.getFileName().toString().replace(".java", ""));
            }
        }
        same("the table of tests", named.toString(), there.toString());
    }
}
