import java.io.IOException;
import java.nio.file.Files;
import java.nio.file.Path;
import java.util.ArrayList;
import java.util.List;
import java.util.regex.Matcher;
import java.util.regex.Pattern;

/** README.md tells the truth: its run of calls, and of each method its promise, its call and what it refuses. */
public final class ReadmeTest extends Edges {
    private static final Pattern PUT = Pattern.compile("put\\(x, \"([^\"]*)\"\\);");
    private static final Pattern CALL = Pattern.compile("x\\.(\\w+\\([^)]*\\));\\s*// ([^:]+):.*");
    private static final Pattern PROMISE = Pattern.compile("## Promise (\\d+): .*\\R+`([^`]+)`");
    private static final int PROMISES = 29;

    private static List<String> block(String readme, String title) {
        int from = readme.indexOf("```java\n", readme.indexOf(title)) + 8;
        return List.of(readme.substring(from, readme.indexOf("```", from)).split("\n"));
    }

    private static void run(String readme) {
        Run x = made();
        int calls = 0;
        for (String line : block(readme, "## A run")) {
            Matcher put = PUT.matcher(line);
            Matcher call = CALL.matcher(line);
            if (put.matches()) {
                x.put(put.group(1));
            } else if (call.matches()) {
                x.calls(call.group(1).replace(" ", "") + "=" + call.group(2));
                calls++;
            } else {
                check(line.equals("PegLaws x = new PegLaws();"), "can't be read: " + line);
            }
        }
        check(calls > 20, "the run has calls");
    }

    /** The rows of the table of methods: promise, call, use, refusal. */
    private static List<String[]> rows(String readme) {
        List<String[]> rows = new ArrayList<>();
        for (String line : readme.substring(readme.indexOf("## Methods")).split("\n")) {
            if (line.matches("\\| \\d+ \\|.*")) {
                rows.add(line.substring(2, line.length() - 2).split(" \\| "));
            }
        }
        return rows;
    }

    private static void calls(List<String[]> rows, String document) {
        check(rows.size() == PROMISES, "there is a row for each promise");
        Matcher promise = PROMISE.matcher(document);
        int found = 0;
        while (promise.find()) {
            String[] row = rows.get(found);
            found++;
            check(row.length == 4, "row " + found + " tells all");
            check(row[0].equals(promise.group(1)), "row " + found + " names its promise");
            String call = promise.group(2).replace(" throws NoSuchElementException", "");
            check(row[1].equals("`" + call + "`"), "promise " + found + " has the call " + call);
        }
        check(document.isEmpty() || found == PROMISES, "the document has 29 promises");
    }

    /** What the row of a promise tells of refusals, and calls on a told object that are refused so. */
    private static void refuses(List<String[]> rows, int promise, String answer, String... calls) {
        String told = rows.get(promise - 1)[3];
        check(told.startsWith(answer.isEmpty() ? "never" : "`" + answer + "`: "), "promise " + promise + " tells " + told);
        String due = answer.equals("NONE") ? "-1" : answer;
        for (String call : calls) {
            busy().refused(call + "=" + due);
        }
    }

    private static void refusals(List<String[]> rows) {
        for (int promise : new int[] {1, 2, 7, 8, 13, 17, 23}) {
            refuses(rows, promise, "");
        }
        for (int promise : new int[] {3, 4}) {
            check(rows.get(promise - 1)[3].startsWith("the FAULT (above 0)"), "promise " + promise + " tells of the FAULT");
        }
        lineFault(4, "pegs @10 ;");
        dayFault(2, "take @nobody ;");
        refuses(rows, 5, "NONE", "cloth(-1,0)", "cloth(3,0)", "cloth(0,-1)", "cloth(0,8)");
        refuses(rows, 6, "-2", "peg(-1,0)", "peg(8,0)", "peg(0,-1)", "peg(0,2)");
        refuses(rows, 9, "NONE", "hang(3,128)", "hang(0,128)", "hang(2,1)", "hang(2,256)", "hang(2,0)");
        refuses(rows, 10, "false", "take(3)", "take(2)");
        refuses(rows, 11, "NONE", "wash(3)", "wash(0)");
        refuses(rows, 12, "NONE", "buy(0)", "buy(10)", "buy(5)");
        check(made().answer("undo()").equals("false"), "nothing can be undone in a new object");
        refuses(rows, 14, "false");
        refuses(rows, 15, "-2", "judged(-1)", "judged(3)");
        refuses(rows, 16, "NONE", "holds(3)", "holds(2)");
        refuses(rows, 18, "NONE", "mend(-1)", "mend(2)");
        refuses(rows, 19, "-2", "fill(0,-1)", "fill(7,-1)", "fill(1,3)", "fill(1,-2)");
        refuses(rows, 20, "NONE", "odds(3,1)", "odds(0,0)", "odds(0,9)", "odds(2,1)");
        refuses(rows, 21, "NONE", "dry(-1)", "dry(7)");
        refuses(rows, 22, "false", "feel(3,0,9)", "feel(0,13,9)", "feel(0,0,10)", "feel(0,-1,9)", "feel(0,0,-1)");
        refuses(rows, 24, "NONE", "ask(3)", "ask(-1)");
        refuses(rows, 25, "NONE", "change(0)", "change(21)");
        refuses(rows, 26, "NoSuchElementException", "rests(10,0,0,-1)", "rests(0,-1,0,-1)", "rests(0,0,0,9)", "rests(0,0,0,-2)");
        refuses(rows, 27, "NONE", "decades(-1,1,0)", "decades(10000,1,0)", "decades(1,0,0)", "decades(1,61,0)", "decades(1,1,3)");
        refuses(rows, 28, "false", "mark(4,false)", "mark(-1,true)", "mark(0,true)");
        refuses(rows, 29, "NONE", "count(-1)", "count(13)");
    }

    private static String document() throws IOException {
        Path path = Path.of("../shared/DOC.md");
        return Files.exists(path) ? Files.readString(path) : "";
    }

    public static void main(String[] args) throws IOException {
        String readme = Files.readString(Path.of("README.md"));
        sentence(0, "The public face");
        run(readme);
        List<String[]> rows = rows(readme);
        calls(rows, document());
        refusals(rows);
        check(readme.contains("by one command, from anywhere: `.ci/run`"), "the one command stands there");
        finish();
    }
}
