import java.io.IOException;
import java.nio.charset.StandardCharsets;
import java.nio.file.Files;
import java.nio.file.Path;
import java.util.HashSet;
import java.util.Map;
import java.util.Set;
import java.util.TreeMap;
import java.util.regex.Matcher;
import java.util.regex.Pattern;

/** Some rules of LANGUAGE.md that can be seen in the words of the source; run from the project's folder. */
public final class LanguageTest {
    private static final String[] NEVER = {"\\bthrow\\b", "\\bthrows\\b", "\\btry\\b", "\\bcatch\\b", "\\bsynchronized\\b", "\\bassert\\b", "->", "::",
        "\\bstatic\\s*\\{", "\\bpackage\\b", "\\bprotected\\b", "Exact\\b", "\\bObject\\b", "\\bThread\\b", "\\bRandom\\b", "\\bvar\\b"};
    private static final String[] PUBLIC_NAMES = {"feed", "cut", "read", "told", "mistake", "kind", "below", "method", "statement", "find", "walk",
        "steps"};

    public static void main(String[] args) throws IOException {
        Probe probe = new Probe("LanguageTest");
        String source = Files.readString(Path.of("src/main/java/ThrowRules.java"), StandardCharsets.ISO_8859_1);
        String words = source.replaceAll("(?s)/\\*.*?\\*/", "").replaceAll("//[^\n]*", "").replaceAll("\"[^\"\n]*\"", "\"\"");
        for (String one : NEVER) {
            probe.due("places of " + one, count(words, one), 0);
        }
        for (String one : PUBLIC_NAMES) {
            probe.due("methods called " + one, count(words, "\\b(int|boolean|void|long|Block|Statement|Catch|Way)\\s+" + one + "\\("), 1);
        }
        probe.due("places of import", count(words, "\\bimport\\b"), 1);
        probe.due("places of import java.util.ArrayList", count(words, "\\bimport java\\.util\\.ArrayList;"), 1);
        probe.due("static fields that are not final", count(words, "\\bstatic\\s+(?!final)\\w+(\\[\\])?\\s+\\w+\\s*[=;]"), 0);
        probe.due("classes are at most twelve", count(words, "\\bclass\\s+\\w+") <= 12, true);
        probe.due("classes that are not final", count(words, "(?<!final )\\bclass\\b"), 0);
        recursionIsPrivate(probe, words);
        probe.end();
    }

    /** Rule 8: a method that comes back to itself by calls within its class is private. */
    private static void recursionIsPrivate(Probe probe, String words) {
        int found = 0;
        for (String body : words.split("\\bclass\\b")) {
            Map<String, String> methods = methodsOf(body);
            for (String name : methods.keySet()) {
                if (reached(name, methods).contains(name)) {
                    found++;
                    probe.due(name + " is private", methods.get(name).startsWith("private "), true);
                }
            }
        }
        probe.due("methods that come back to themselves are found", found > 0, true);
    }

    /** The methods of one class by their names, each with its words from its first one on. */
    private static Map<String, String> methodsOf(String body) {
        Map<String, String> methods = new TreeMap<>();
        Matcher matcher = Pattern.compile("(?ms)^        ((?:private )?(?:static )?\\w+ (\\w+)\\([^)]*\\) \\{\n.*?)^        \\}$").matcher(body);
        while (matcher.find()) {
            methods.put(matcher.group(2), matcher.group(1));
        }
        return methods;
    }

    private static Set<String> reached(String start, Map<String, String> methods) {
        Set<String> reached = new HashSet<>();
        reach(start, methods, reached);
        return reached;
    }

    private static void reach(String from, Map<String, String> methods, Set<String> reached) {
        String text = methods.get(from);
        Matcher call = Pattern.compile("(?<![.\\w])(\\w+)\\(").matcher(text.substring(text.indexOf('\n')));
        while (call.find()) {
            String name = call.group(1);
            if (methods.containsKey(name) && reached.add(name)) {
                reach(name, methods, reached);
            }
        }
    }

    private static int count(String words, String pattern) {
        Matcher matcher = Pattern.compile(pattern).matcher(words);
        int found = 0;
        while (matcher.find()) {
            found++;
        }
        return found;
    }
}
