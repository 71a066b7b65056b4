/** Promise 1: a new object has the UNIT of an empty text, an empty TAPE, and no walk was. */
public final class NewObjectTest {
    public static void main(String[] args) {
        Probe probe = new Probe("NewObjectTest");
        Counted x = probe.x;
        probe.due("told(0)", x.told(0), 4);
        for (int what = 1; what <= 4; what++) {
            probe.due("told(" + what + ")", x.told(what), 0);
        }
        probe.due("steps()", x.steps(), 0);
        probe.due("walk(0, 1)", x.walk(0, 1), ThrowRules.BAD);
        probe.due("steps() behind a walk that was none", x.steps(), 0);
        probe.due("mistake(0, 0)", x.mistake(0, 0), ThrowRules.BAD);
        probe.due("method(0, 0)", x.method(0, 0), ThrowRules.BAD);
        probe.due("statement(0, 0)", x.statement(0, 0), ThrowRules.BAD);
        probe.due("kind(4, 0)", x.kind(4, 0), ThrowRules.BAD);
        probe.due("kind(3, 0)", x.kind(3, 0), 0);
        probe.due("below(2, 1)", x.below(2, 1), true);
        probe.due("find()", x.find(), ThrowRules.NONE);
        probe.due("cut(0)", x.cut(0), 0);
        probe.due("read()", x.read(), 0);
        probe.right("way f { do; }", 1);
        probe.due("told(1) of another object", x.told(1), 0);
        probe.end();
    }
}
