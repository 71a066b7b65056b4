/** Promise 9: method. */
public final class MethodTest {
    public static void main(String[] args) {
        Probe probe = new Probe("MethodTest");
        String text = "kind a below plain; kind b below a; way f over g free throws b, zz, loose; way g throws a { if { throw a; } "
            + "call f; } way g over zz throws b, b { throw plain; } way h over h { } way i over g free { return; } way j throws zz;";
        probe.right(text, 6);
        row(probe, 0, 40, 0, "", "b,loose", 0, 1, 1);
        row(probe, 1, 79, 1, "a,b,loose", "a", 1, 0, ThrowRules.NONE);
        row(probe, 2, text.indexOf("g over zz"), 1, "plain", "b", 0, 0, ThrowRules.NONE);
        row(probe, 3, text.indexOf("h over h"), 1, "", "", 1, 0, 3);
        row(probe, 4, text.indexOf("i over"), 1, "", "", 0, 1, 1);
        row(probe, 5, text.indexOf("j throws"), 0, "", "", 0, 0, ThrowRules.NONE);
        int[] wrongNumbers = {-1, 6, Integer.MIN_VALUE, Integer.MAX_VALUE};
        for (int wrong : wrongNumbers) {
            for (int what = 0; what < 7; what++) {
                probe.due("method(" + wrong + ", " + what + ")", probe.x.method(wrong, what), ThrowRules.BAD);
            }
        }
        int[] wrongWhats = {-1, 7, Integer.MIN_VALUE, Integer.MAX_VALUE};
        for (int wrong : wrongWhats) {
            probe.due("method(0, " + wrong + ")", probe.x.method(0, wrong), ThrowRules.BAD);
        }
        probe.end();
    }

    private static void row(Probe probe, int m, int place, int hasBlock, String can, String told, int... rest) {
        int[] want = {place, hasBlock, probe.set(can), probe.set(told), rest[0], rest[1], rest[2]};
        for (int what = 0; what < 7; what++) {
            probe.due("method(" + m + ", " + what + ")", probe.x.method(m, what), want[what]);
        }
    }
}
