import java.io.IOException;
import java.nio.charset.StandardCharsets;
import java.nio.file.Files;
import java.nio.file.Path;
import java.util.List;
import java.util.regex.Matcher;
import java.util.regex.Pattern;

/** README.md's example is carried out line by line, and its tables must name every method and every test; run from the project's folder. */
public final class ReadmeTest {
    private static final String[] FACE = {"feed(a, b, c, d, e)", "cut(n)", "read()", "told(what)", "mistake(k, what)", "kind(k, what)", "below(a, b)",
        "method(m, what)", "statement(i, what)", "find()", "walk(m, seed)", "steps()"};
    private static final Pattern PUT = Pattern.compile("put\\(rules, \"([^\"]*)\"\\);");
    private static final Pattern CALL = Pattern.compile("rules\\.(\\w+)\\(([^)]*)\\); +// (-?\\d+|true|false): .+");

    private final Probe probe = new Probe("ReadmeTest");

    public static void main(String[] args) throws IOException {
        ReadmeTest test = new ReadmeTest();
        String readme = Files.readString(Path.of("README.md"), StandardCharsets.UTF_8);
        test.theExample(readme);
        test.theTableOfMethods(readme);
        test.theTableOfTests(readme);
        test.probe.end();
    }

    private void theExample(String readme) {
        String start = "ThrowRules rules = new ThrowRules();\n";
        int from = readme.indexOf(start);
        probe.due("the example's first line is there", from >= 0, true);
        String lines = readme.substring(from + start.length(), readme.indexOf("```", from));
        for (String line : lines.split("\n")) {
            Matcher put = PUT.matcher(line);
            Matcher call = CALL.matcher(line);
            if (put.matches()) {
                put(probe.x, put.group(1));
            } else if (call.matches()) {
                probe.due(line, answer(call.group(1), call.group(2)), call.group(3));
            } else {
                probe.due("a line of the example", line, "a put or a call with its answer");
            }
        }
    }

    /** As README.md has it. */
    private static void put(Counted rules, String text) {
        int[] five = new int[5];
        for (int from = 0; from < text.length(); from += 20) {
            for (int i = 0; i < 20; i++) {
                int c = from + i < text.length() ? text.charAt(from + i) : ' ';
                five[i / 4] = five[i / 4] << 8 | c;
            }
            rules.feed(five[0], five[1], five[2], five[3], five[4]);
        }
        rules.cut(text.length());
    }

    private String answer(String method, String arguments) {
        String[] parts = arguments.replace("L", "").split(", ");
        int first = parts[0].isEmpty() ? 0 : Integer.parseInt(parts[0]);
        int second = parts.length < 2 ? 0 : Integer.parseInt(parts[1]);
        switch (method) {
            case "read": return "" + probe.x.read();
            case "told": return "" + probe.x.told(first);
            case "mistake": return "" + probe.x.mistake(first, second);
            case "kind": return "" + probe.x.kind(first, second);
            case "below": return "" + probe.x.below(first, second);
            case "method": return "" + probe.x.method(first, second);
            case "statement": return "" + probe.x.statement(first, second);
            case "find": return "" + probe.x.find();
            case "walk": return "" + probe.x.walk(first, second);
            case "steps": return "" + probe.x.steps();
            default: return "no such call";
        }
    }

    private void theTableOfMethods(String readme) {
        for (String one : FACE) {
            probe.due("a row for " + one, readme.contains("\n| `" + one + "` | "), true);
        }
    }

    private void theTableOfTests(String readme) throws IOException {
        String table = readme.substring(readme.indexOf("| promise or part |"));
        try (var files = Files.list(Path.of("src/test/java"))) {
            List<String> names = files.map(file -> file.getFileName().toString()).filter(name -> name.endsWith("Test.java")).sorted().toList();
            for (String name : names) {
                probe.due("the table has " + name, Pattern.compile("\\b" + name.replace(".java", "") + "\\b").matcher(table).find(), true);
            }
        }
    }
}
