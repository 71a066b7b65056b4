/** Promise 11 at its edges. */
public final class FindEdgeTest {
    private static final int NONE = ThrowRules.NONE;
    private static final String TEXT = "kind abcdefgh below plain; kind z below loose; way abcdefg { try { } catch (loose parm) { } } way z; way f; way all; way f;";

    private final Probe probe = new Probe("FindEdgeTest");

    public static void main(String[] args) {
        FindEdgeTest test = new FindEdgeTest();
        test.ofANewObject();
        test.kindsAheadOfMethods();
        test.theFirstOfThatName();
        test.wholly();
        test.eightLettersAndNine();
        test.keywordsAreNoNames();
        test.parametersAreNeither();
        test.theTapeIsEmptyThen();
        test.theUnitStays();
        test.theLastOfEach();
        test.probe.end();
    }

    /** Finds a text in TEXT, on both objects. */
    private void found(String name, int want) {
        probe.both(() -> {
            probe.read(TEXT);
            probe.due("find of '" + name + "'", probe.find(name), want);
            probe.due("told(4) behind it", probe.x.told(4), 0);
        });
    }

    private void ofANewObject() {
        probe.fresh();
        probe.due("find of the empty tape", probe.x.find(), NONE);
        probe.due("find all", probe.find("all"), 100);
        probe.due("find plain", probe.find("plain"), 101);
        probe.due("find loose", probe.find("loose"), 102);
        probe.due("find error", probe.find("error"), 103);
        probe.due("find z", probe.find("z"), NONE);
    }

    /** "100 and its KIND, or (it comes behind that) 200 and its METHOD" */
    private void kindsAheadOfMethods() {
        found("z", 105);
        found("all", 100);
        found("plain", 101);
        found("loose", 102);
        found("error", 103);
        found("f", 202);
        found("abcdefg", 200);
    }

    private void theFirstOfThatName() {
        probe.both(() -> {
            probe.read("kind a below plain; kind a below loose; way f; way f { } kind loose below error; way g over f;");
            probe.due("find a", probe.find("a"), 104);
            probe.due("find f", probe.find("f"), 200);
            probe.due("find g", probe.find("g"), 202);
            probe.due("find loose", probe.find("loose"), 102);
        });
    }

    /** "THE TAPE, wholly, is a NAME" */
    private void wholly() {
        found("", NONE);
        for (String beside : new String[] {" ", "\n", ";", "{", "|", " z", ",z", "\u0000", "A", "_", "0", "\u00ff", "\u007b", "\u0060"}) {
            found("z" + beside, NONE);
            found(beside + "z", NONE);
        }
        found("f f", NONE);
        found("way f;", NONE);
        found("z" + " ".repeat(19), NONE);
        found("z" + " ".repeat(1999), NONE);
    }

    private void eightLettersAndNine() {
        found("abcdefgh", 104);
        found("abcdefghi", NONE);
        found("aabcdefgh", NONE);
        found("abcdefgha", NONE);
        found("abcdefg", 200);
        found("abcdef", NONE);
        found("bcdefgh", NONE);
        found("zzzzzzzz", NONE);
        found("abcdefgh".repeat(2), NONE);
        found("z".repeat(9), NONE);
        found("z".repeat(2000), NONE);
        found("p".repeat(1992) + "abcdefgh", NONE);
    }

    private void keywordsAreNoNames() {
        String words = "kind below way over free throws do call throw set if else while loop break return try catch finally run";
        for (String word : words.split(" ")) {
            found(word, NONE);
        }
    }

    private void parametersAreNeither() {
        found("parm", NONE);
    }

    /** "(THE TAPE is empty then.)", whatever was found. */
    private void theTapeIsEmptyThen() {
        probe.both(() -> {
            for (String text : new String[] {"all", "zz", "", "a b", "way", "abcdefghi", "\u0000"}) {
                probe.find(text);
                probe.due("told(4) behind '" + text + "'", probe.x.told(4), 0);
                probe.due("cut(1)", probe.x.cut(1), ThrowRules.BAD);
            }
            probe.due("find of what stands alone again", probe.find("error"), 103);
        });
    }

    private void theUnitStays() {
        probe.both(() -> {
            String before = probe.state();
            probe.find("all");
            probe.find("way f;");
            probe.due("the state behind find", probe.state(), before);
        });
    }

    private void theLastOfEach() {
        String text = "kind a below plain;".repeat(11) + "kind b below plain;" + "way c;".repeat(11) + "way d;";
        probe.both(() -> {
            probe.due("read", probe.read(text), 12);
            probe.due("find a", probe.find("a"), 104);
            probe.due("find b", probe.find("b"), 115);
            probe.due("find c", probe.find("c"), 200);
            probe.due("find d", probe.find("d"), 211);
        });
    }
}
