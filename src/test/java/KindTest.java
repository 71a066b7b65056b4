/** Promises 7 and 8: kind and below. */
public final class KindTest {
    public static void main(String[] args) {
        Probe probe = new Probe("KindTest");
        firstFour(probe);
        toldKinds(probe);
        unknownParents(probe);
        manyKinds(probe);
        probe.end();
    }

    private static void row(Probe probe, int k, int parent, int checked, int place) {
        probe.due("kind(" + k + ", 0)", probe.x.kind(k, 0), parent);
        probe.due("kind(" + k + ", 1)", probe.x.kind(k, 1), checked);
        probe.due("kind(" + k + ", 2)", probe.x.kind(k, 2), place);
    }

    private static void firstFour(Probe probe) {
        row(probe, 0, ThrowRules.NONE, 1, ThrowRules.NONE);
        row(probe, 1, 0, 1, ThrowRules.NONE);
        row(probe, 2, 1, 0, ThrowRules.NONE);
        row(probe, 3, 0, 0, ThrowRules.NONE);
        row(probe, 4, ThrowRules.BAD, ThrowRules.BAD, ThrowRules.BAD);
        row(probe, -1, ThrowRules.BAD, ThrowRules.BAD, ThrowRules.BAD);
        row(probe, Integer.MAX_VALUE, ThrowRules.BAD, ThrowRules.BAD, ThrowRules.BAD);
        row(probe, Integer.MIN_VALUE, ThrowRules.BAD, ThrowRules.BAD, ThrowRules.BAD);
        probe.due("kind(0, 3)", probe.x.kind(0, 3), ThrowRules.BAD);
        probe.due("kind(0, -1)", probe.x.kind(0, -1), ThrowRules.BAD);
        belows(probe, "1000 1100 1110 1001");
    }

    private static void toldKinds(Probe probe) {
        probe.right("kind a below loose; kind b below a; kind c below error; kind d below all; kind  e below d;", 0);
        row(probe, 4, 2, 0, 5);
        row(probe, 5, 4, 0, 25);
        row(probe, 6, 3, 0, 41);
        row(probe, 7, 0, 1, 61);
        row(probe, 8, 7, 1, 80);
        belows(probe, "100000000 110000000 111000000 100100000 111010000 111011000 100100100 100000010 100000011");
    }

    /** Rows: whether a KIND is below each one. */
    private static void belows(Probe probe, String rows) {
        String[] all = rows.split(" ");
        for (int a = -2; a < all.length + 2; a++) {
            for (int b = -2; b < all.length + 2; b++) {
                boolean both = a >= 0 && b >= 0 && a < all.length && b < all.length;
                probe.due("below(" + a + ", " + b + ")", probe.x.below(a, b), both && all[a].charAt(b) == '1');
            }
        }
        int[] wrongNumbers = {Integer.MIN_VALUE, -32, 31, 32, 36, Integer.MAX_VALUE};
        for (int wrong : wrongNumbers) {
            probe.due("below(0, " + wrong + ")", probe.x.below(0, wrong), false);
            probe.due("below(" + wrong + ", 0)", probe.x.below(wrong, 0), false);
            probe.due("below(" + wrong + ", " + wrong + ")", probe.x.below(wrong, wrong), false);
        }
    }

    private static void unknownParents(Probe probe) {
        probe.right("kind a below zz; kind b below b; kind a below loose; kind c below a; kind loose below all;", 0);
        row(probe, 4, 1, 1, 5);
        row(probe, 5, 1, 1, 22);
        row(probe, 6, 2, 0, 38);
        row(probe, 7, 4, 1, 58);
        row(probe, 8, 0, 1, 74);
        belows(probe, "100000000 110000000 111000000 100100000 110010000 110001000 111000100 110010010 100000001");
    }

    private static void manyKinds(Probe probe) {
        StringBuilder text = new StringBuilder("kind a below loose;");
        for (char c = 'b'; c < 'm'; c++) {
            text.append("kind ").append(c).append(" below ").append((char) (c - 1)).append(";");
        }
        probe.right(text.toString(), 0);
        row(probe, 15, 14, 0, text.indexOf("kind l") + 5);
        row(probe, 16, ThrowRules.BAD, ThrowRules.BAD, ThrowRules.BAD);
        probe.due("below(15, 2)", probe.x.below(15, 2), true);
        probe.due("below(15, 3)", probe.x.below(15, 3), false);
        probe.due("below(4, 15)", probe.x.below(4, 15), false);
        probe.due("below(15, 15)", probe.x.below(15, 15), true);
    }
}
