import java.io.ByteArrayOutputStream;
import java.io.IOException;
import java.io.PrintStream;
import java.nio.file.Files;
import java.nio.file.Path;
import java.util.ArrayList;
import java.util.List;
import java.util.regex.Matcher;
import java.util.regex.Pattern;

/** README.md tells what the document tells of exceptions and negative results, in its words. */
final class ReadmeTest {
    private static final Pattern SIGNATURE = Pattern.compile("`(?:\\w+ )?(\\w+)\\(([^)]*)\\)");
    private static final Pattern THROWS = Pattern.compile("\nThrows `(\\w+)` if ([^\n]*)");
    private static final Pattern RETURNS = Pattern.compile("\nReturns ([^\n]*)");
    private static final Pattern NEGATIVE = Pattern.compile("(-\\d) (if |(?=for ))([^;.]*)");
    private static final Pattern ERROR = Pattern.compile("\n  (\\d): ([^\n]*)");

    private static final String USUAL = "| `load`, `errorPosition` | nothing | |\n"
            + "| each other method | `IllegalStateException` | there is no board |\n"
            + "| each other method with parameters | `IllegalArgumentException` | an argument is"
            + " out of its range; a scene, actor of a scene, shot or setup that does not exist is"
            + " out of range, too |";

    private final String readme;
    private final String document;

    private ReadmeTest(String readme, String document) {
        this.readme = readme;
        this.document = document;
    }

    /** The working directory is that of the project. */
    static void run() throws IOException {
        ReadmeTest test = new ReadmeTest(Files.readString(Path.of("README.md")),
                Files.readString(Path.of("../shared/DOC.md")));
        test.example(Files.readString(Path.of("src/test/java/Example.java")));
        test.methods();
        test.exceptions();
        test.negativeResults();
        test.errorCodes();
    }

    private void example(String source) {
        int start = readme.indexOf("```java\n") + 8;
        String block = readme.substring(start, readme.indexOf("```\n", start));
        Checks.same("the example of the page is that of the file", true, source.contains(block));
        Checks.same("the board of the example", true, hasBlock(Example.BOARD));
        Checks.same("the words of the example", true, readme.contains("the words "
                + String.join(", ", List.of(Example.KINDS).subList(0, 3)) + " and "
                + Example.KINDS[3]));
        Checks.same("what the example prints", true, hasBlock(printed()));
    }

    private boolean hasBlock(String text) {
        return readme.contains("\n```\n" + text + "```\n");
    }

    private static String printed() {
        PrintStream usual = System.out;
        ByteArrayOutputStream printed = new ByteArrayOutputStream();
        System.setOut(new PrintStream(printed, true));
        try {
            Example.main(new String[0]);
        } finally {
            System.setOut(usual);
        }
        return printed.toString().replace("\r\n", "\n");
    }

    /** The promises' sections, each from its signature on. */
    private List<String> promises() {
        List<String> promises = new ArrayList<>(List.of(document.split("\n## Promise \\d+: ")));
        promises.remove(0);
        Checks.same("the number of promises", 46, promises.size());
        return promises;
    }

    private static Matcher signatureOf(String promise) {
        Matcher signature = SIGNATURE.matcher(promise);
        Checks.same("a signature in " + promise, true, signature.find());
        return signature;
    }

    /** Each method stands in a table, the constructor in the text. */
    private void methods() {
        for (String promise : promises()) {
            Matcher signature = signatureOf(promise);
            String name = signature.group(1);
            String call = name + "(" + signature.group(2).replaceAll("\\w+ (\\w+)", "$1") + ")";
            String due = name.equals("ShotListPlanner") ? "`new " + call + "`"
                    : "\n| `" + call + "` | ";
            Checks.same(call + " stands in the page", true, readme.contains(due));
        }
    }

    private void exceptions() {
        List<String> due = new ArrayList<>();
        for (String promise : promises()) {
            Matcher thrown = THROWS.matcher(promise);
            while (thrown.find()) {
                String clause = thrown.group(2).trim();
                boolean isUsual = clause.equals("there is no board")
                        || clause.equals("an argument is out of its range");
                if (!isUsual) {
                    due.add("| `" + signatureOf(promise).group(1) + "` | `" + thrown.group(1)
                            + "` | " + clause + " |");
                }
            }
        }
        List<String> rows = rowsBelow("| method | throws | if |");
        List<String> usual = new ArrayList<>(rows);
        usual.removeIf(row -> row.matches("\\| `\\w+` .*"));
        rows.removeAll(usual);
        Checks.same("the usual exceptions", USUAL, String.join("\n", usual));
        Checks.same("the exceptions", String.join("\n", due), String.join("\n", rows));
    }

    private void negativeResults() {
        List<String> due = new ArrayList<>();
        for (String promise : promises()) {
            String name = signatureOf(promise).group(1);
            Matcher returned = RETURNS.matcher(promise);
            while (returned.find()) {
                Matcher negative = NEGATIVE.matcher(returned.group(1));
                while (negative.find() && !name.equals("load")) {
                    due.add("| `" + name + "` | " + negative.group(1) + " | "
                            + negative.group(3) + " |");
                }
            }
        }
        List<String> rows = rowsBelow("| method | result | if |");
        Checks.same("the result of load()", "| `load` | -11 to -14 | the text is wrong: -10 minus"
                + " the error code |", rows.remove(0));
        Checks.same("the negative results", String.join("\n", due), String.join("\n", rows));
    }

    private void errorCodes() {
        List<String> due = new ArrayList<>();
        Matcher error = ERROR.matcher(document.substring(document.indexOf("5. BOARD TEXT")));
        while (error.find()) {
            int code = Integer.parseInt(error.group(1));
            due.add("| " + (-10 - code) + " | " + code + " | " + error.group(2).trim() + " |");
        }
        Checks.same("the codes of errors", 4, due.size());
        Checks.same("the error codes", String.join("\n", due),
                String.join("\n", rowsBelow("| `load()` | code | error |")));
    }

    private List<String> rowsBelow(String head) {
        List<String> rows = new ArrayList<>();
        int start = readme.indexOf(head + "\n| --- | --- | --- |\n");
        Checks.same("the table " + head, true, start >= 0);
        String below = readme.substring(Math.max(start, 0));
        for (String line : below.substring(0, below.indexOf("\n\n")).split("\n")) {
            rows.add(line);
        }
        return new ArrayList<>(rows.subList(Math.min(2, rows.size()), rows.size()));
    }
}
