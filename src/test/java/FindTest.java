/** Promise 11: find. */
public final class FindTest {
    public static void main(String[] args) {
        Probe probe = new Probe("FindTest");
        probe.right("way f { } kind a below plain; kind abcdefgh below a; kind a below loose; way a; way g; way f; way e { try { } catch (a p) { } }", 5);
        probe.due("find all", probe.find("all"), 100);
        probe.due("find plain", probe.find("plain"), 101);
        probe.due("find loose", probe.find("loose"), 102);
        probe.due("find error", probe.find("error"), 103);
        probe.due("find a", probe.find("a"), 104);
        probe.due("find abcdefgh", probe.find("abcdefgh"), 105);
        probe.due("find f", probe.find("f"), 200);
        probe.due("find g", probe.find("g"), 202);
        probe.due("find e", probe.find("e"), 204);
        String[] none = {"", "p", "zz", "abcdefg", "abcdefghi", "abcdefgha", " a", "a ", "a\n", "a b", "a;", "kind", "way", "run", "A", "aA", "\u00e1",
            "a\u0000", "{", "al", "alll", "f f"};
        for (String text : none) {
            probe.due("find of '" + text + "'", probe.find(text), ThrowRules.NONE);
            probe.due("told(4) behind it", probe.x.told(4), 0);
        }
        probe.due("find a again", probe.find("a"), 104);
        probe.due("told(4) behind a NAME", probe.x.told(4), 0);
        probe.due("told(1)", probe.x.told(1), 5);
        probe.right("way loose;", 1);
        probe.due("find loose, a METHOD too", probe.find("loose"), 102);
        probe.due("find a in another text", probe.find("a"), ThrowRules.NONE);
        probe.end();
    }
}
