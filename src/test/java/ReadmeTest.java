import java.nio.file.Files;
import java.nio.file.Path;
import java.util.List;
import java.util.regex.Matcher;
import java.util.regex.Pattern;
import java.util.stream.Stream;

/** README.md against the program and the document: its example, its table of calls, its list of tests. */
public final class ReadmeTest {
    private static final Pattern CALL = Pattern.compile("x\\.(\\w+)\\(([^)]*)\\);\\s*// (-?\\d+).*");
    private static final Pattern TELL = Pattern.compile("tell\\(x, \"([^\"]*)\"\\);\\s*// (-?\\d+).*");
    private static final Pattern PROMISE = Pattern.compile("(?m)^## Promise (\\d+): .*\\n\\n`(?:int |long )?(\\w+)\\((.*)\\)`");

    private static final Script SCRIPT = new Script();

    public static void main(String[] args) throws Exception {
        List<String> lines = Files.readAllLines(Path.of("README.md"));
        tryExample(lines);
        lookAtTable(String.join("\n", lines));
        lookAtTests(String.join("\n", lines));
        SCRIPT.end("README.md");
    }

    private static void tryExample(List<String> lines) {
        SCRIPT.says("the example of README.md");
        int from = lines.indexOf("EyeTrainer x = new EyeTrainer();");
        SCRIPT.due("an example stands there", from < 0 ? 0 : 1, 1);
        int last = from;
        while (last >= 0 && !lines.get(last + 1).equals("```")) {
            last++;
            tryLine(lines.get(last));
        }
    }

    private static void tryLine(String line) {
        Matcher call = CALL.matcher(line);
        Matcher tell = TELL.matcher(line);
        if (call.matches()) {
            SCRIPT.due(call.group(1) + " " + call.group(2).replace(",", ""), Long.parseLong(call.group(3)));
        } else if (tell.matches()) {
            SCRIPT.due(line, Calls.tell(SCRIPT.x, tell.group(1)), Long.parseLong(tell.group(2)));
        } else {
            SCRIPT.due("a line that tells its answer: " + line, 0, 1);
        }
    }

    /** Each promise of the document has a row with its number and its call. */
    private static void lookAtTable(String readme) throws Exception {
        SCRIPT.says("the table of README.md");
        Matcher promise = PROMISE.matcher(Files.readString(Path.of("../shared/DOC.md")));
        int found = 0;
        while (promise.find()) {
            found++;
            String call = promise.group(2) + "(" + promise.group(3).replaceAll("(int|long) ", "") + ")";
            String row = "| " + promise.group(1) + " | `" + call + "` | ";
            SCRIPT.due("a row that begins " + row, readme.contains("\n" + row) ? 1 : 0, 1);
        }
        SCRIPT.due("promises of the document", found, 47);
    }

    private static void lookAtTests(String readme) throws Exception {
        SCRIPT.says("the tests of README.md");
        SCRIPT.due("the command", readme.contains("```sh\n.ci/run\n```") ? 1 : 0, 1);
        try (Stream<Path> tests = Files.list(Path.of("src/test/java"))) {
            for (Path test : tests.toList()) {
                SCRIPT.due("it names " + test.getFileName(), readme.contains(test.getFileName() + "`") ? 1 : 0, 1);
            }
        }
    }
}
