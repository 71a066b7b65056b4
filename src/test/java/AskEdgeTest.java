import java.util.function.IntBinaryOperator;

/** Promises 5 to 10 at their edges: which numbers are taken, which are refused, on UNITS from the empty to the fullest one. */
public final class AskEdgeTest {
    private static final int NONE = ThrowRules.NONE, BAD = ThrowRules.BAD;
    private static final String SMALL = "kind a below plain; way f throws a { throw zz; do; } way g;";

    private final Probe probe = new Probe("AskEdgeTest");

    public static void main(String[] args) {
        AskEdgeTest test = new AskEdgeTest();
        test.toldOfEachUnit();
        test.toldOfAnotherWhat();
        test.mistakeOfNone();
        test.mistakeAtItsEdges();
        test.mistakesAsManyAsTheyGet();
        test.whichMistakesHaveAKind();
        test.kindAtItsEdges();
        test.fullestKinds();
        test.belowOfNumbersThatAreNoKinds();
        test.belowInAChain();
        test.methodAtItsEdges();
        test.fullestMethods();
        test.methodWithoutBlock();
        test.statementAtItsEdges();
        test.fullestStatements();
        test.statementsOfTheirMethods();
        test.refusedCallsChangeNothing();
        test.probe.end();
    }

    /** A call with number and what: just the numbers below count and the whats below whats are taken. */
    private void edges(String name, int count, int whats, IntBinaryOperator call) {
        for (int what = 0; what < whats; what++) {
            if (count > 0) {
                probe.due(name + "(0, " + what + ") is taken", call.applyAsInt(0, what) != BAD, true);
                probe.due(name + " of the last, " + what + ", is taken", call.applyAsInt(count - 1, what) != BAD, true);
            }
            probe.due(name + " of one behind the last, " + what, call.applyAsInt(count, what), BAD);
            probe.due(name + "(-1, " + what + ")", call.applyAsInt(-1, what), BAD);
        }
        for (int far : Probe.FAR) {
            probe.due(name + "(" + far + ", 0)", call.applyAsInt(far, 0), BAD);
            probe.due(name + "(0, " + far + ")", call.applyAsInt(0, far), BAD);
        }
        probe.due(name + "(0, " + whats + ")", call.applyAsInt(0, whats), BAD);
        probe.due(name + " of the last, " + whats, call.applyAsInt(count - 1, whats), BAD);
        probe.due(name + " of none, of another what", call.applyAsInt(count, whats), BAD);
    }

    private void counts(int kinds, int methods, int statements, int mistakes, int bytes) {
        int[] want = {kinds, methods, statements, mistakes, bytes};
        for (int what = 0; what < want.length; what++) {
            probe.due("told(" + what + ")", probe.x.told(what), want[what]);
        }
    }

    private void toldOfEachUnit() {
        probe.fresh();
        counts(4, 0, 0, 0, 0);
        probe.both(() -> {
            probe.due("read of nothing", probe.x.read(), 0);
            counts(4, 0, 0, 0, 0);
            probe.due("read", probe.read(SMALL), 2);
            counts(5, 2, 2, 2, 0);
            probe.tape("kind");
            counts(5, 2, 2, 2, 4);
        });
        probe.both(() -> {
            probe.due("read", probe.read("kind a below a;".repeat(12) + "way f{" + "do;".repeat(120) + "}" + "way f;".repeat(11)), 12);
            for (int n = 1; n <= 100; n++) {
                probe.x.feed(n, n, n, n, n);
            }
            // Eleven KINDS and eleven METHODS have a NAME that is taken, and the first KIND is not known in its own below.
            counts(16, 12, 120, 23, 2000);
        });
    }

    /** "BAD: another what" */
    private void toldOfAnotherWhat() {
        probe.both(() -> {
            for (int far : Probe.FAR) {
                probe.due("told(" + far + ")", probe.x.told(far), BAD);
            }
            probe.due("told(5)", probe.x.told(5), BAD);
        });
    }

    private void mistakeOfNone() {
        probe.fresh();
        edges("mistake", 0, 3, (k, what) -> probe.x.mistake(k, what));
        probe.both(() -> {
            probe.due("read", probe.read("way f { do; }"), 1);
            edges("mistake", 0, 3, (k, what) -> probe.x.mistake(k, what));
        });
    }

    private void mistakeAtItsEdges() {
        probe.both(() -> {
            probe.due("read", probe.read(SMALL), 2);
            edges("mistake", 2, 3, (k, what) -> probe.x.mistake(k, what));
            probe.due("the mistakes", probe.foundMistakes(), "1@" + SMALL.indexOf("zz") + ":-1 7@" + SMALL.indexOf("do") + ":-1 ");
        });
    }

    /** No bound is told for MISTAKES: a text of 2000 bytes can have some hundreds, and all are told. */
    private void mistakesAsManyAsTheyGet() {
        String one = "try{}" + "catch(b|b|b|b e){}".repeat(4);
        String text = "way f{" + one.repeat(25) + "}";
        probe.both(() -> {
            probe.due("read", probe.read(text), 1);
            probe.due("told(3)", probe.x.told(3), 400);
            int place = 0;
            for (int k = 0; k < 400; k++) {
                place = nextName(text, place);
                if (k % 7 == 0 || k > 395) {
                    probe.due("mistake(" + k + ", 1)", probe.x.mistake(k, 1), place);
                }
            }
            probe.due("mistake(399, 0)", probe.x.mistake(399, 0), 1);
            probe.due("mistake(400, 0)", probe.x.mistake(400, 0), BAD);
        });
    }

    /** The place of the next NAME b in a catch. */
    private static int nextName(String text, int place) {
        int first = text.indexOf("(b", place);
        int other = text.indexOf("|b", place);
        return 1 + (first < 0 ? other : other < 0 ? first : Math.min(first, other));
    }

    /** "2 the KIND (of 3, 4, 5, 9, 10; else NONE)" */
    private void whichMistakesHaveAKind() {
        String text = "kind a below plain; kind a below zz; way f { throw a; do; break; call f { }; } way g over f throws a { "
            + "try { } catch (a | a e) { set e; run { set e; }; } catch (a e) { } }";
        probe.both(() -> {
            probe.due("read", probe.read(text), 2);
            int seen = 0;
            int count = probe.x.told(3);
            for (int k = 0; k < count; k++) {
                int code = probe.x.mistake(k, 0);
                boolean has = code == 3 || code == 4 || code == 5 || code == 9 || code == 10;
                probe.due("the KIND of a MISTAKE " + code, probe.x.mistake(k, 2), has ? 4 : NONE);
                seen |= 1 << code;
            }
            probe.due("the codes seen", seen, 0x1ffe);
        });
    }

    /** "NONE of all", "NONE of the first four", "BAD: none such" */
    private void kindAtItsEdges() {
        int[][] first = {{NONE, 1, NONE}, {0, 1, NONE}, {1, 0, NONE}, {0, 0, NONE}};
        probe.fresh();
        edges("kind", 4, 3, (k, what) -> probe.x.kind(k, what));
        probe.both(() -> {
            probe.due("read", probe.read(SMALL), 2);
            edges("kind", 5, 3, (k, what) -> probe.x.kind(k, what));
            for (int k = 0; k < 4; k++) {
                for (int what = 0; what < 3; what++) {
                    probe.due("kind(" + k + ", " + what + ")", probe.x.kind(k, what), first[k][what]);
                }
            }
            probe.due("kind(4, 0)", probe.x.kind(4, 0), 1);
            probe.due("kind(4, 1)", probe.x.kind(4, 1), 1);
            probe.due("kind(4, 2)", probe.x.kind(4, 2), 5);
        });
    }

    private void fullestKinds() {
        probe.both(() -> {
            probe.due("read", probe.read("kind a below plain;".repeat(11) + "kind l below loose;"), 0);
            edges("kind", 16, 3, (k, what) -> probe.x.kind(k, what));
            probe.due("kind(14, 0)", probe.x.kind(14, 0), 1);
            probe.due("kind(14, 2)", probe.x.kind(14, 2), 195);
            probe.due("kind(15, 0)", probe.x.kind(15, 0), 2);
            probe.due("kind(15, 1)", probe.x.kind(15, 1), 0);
            probe.due("kind(15, 2)", probe.x.kind(15, 2), 214);
        });
    }

    /** "Whether both are KINDS": numbers that are as KINDS are, modulo 32 or 16, are none. */
    private void belowOfNumbersThatAreNoKinds() {
        probe.both(() -> {
            probe.due("read", probe.read(SMALL), 2);
            for (int far : Probe.FAR) {
                probe.due("below(" + far + ", 0)", probe.x.below(far, 0), false);
                probe.due("below(0, " + far + ")", probe.x.below(0, far), false);
                probe.due("below(" + far + ", " + far + ")", probe.x.below(far, far), false);
            }
            for (int none : new int[] {5, 15, 16, 20, 31, 32, 33, 36, 64, -28}) {
                probe.due("below(" + none + ", 0)", probe.x.below(none, 0), false);
                probe.due("below(4, " + none + ")", probe.x.below(4, none), false);
                probe.due("below(" + none + ", " + none + ")", probe.x.below(none, none), false);
            }
            probe.due("below(4, 4)", probe.x.below(4, 4), true);
            probe.due("below(4, 0)", probe.x.below(4, 0), true);
        });
    }

    /** "A KIND is BELOW itself, its parent, and what that is below": a chain of twelve. */
    private void belowInAChain() {
        for (String top : new String[] {"all", "plain", "loose", "error"}) {
            StringBuilder text = new StringBuilder("kind a below " + top + ";");
            for (char c = 'b'; c <= 'l'; c++) {
                text.append("kind ").append(c).append(" below ").append((char) (c - 1)).append(";");
            }
            int under = top.equals("all") ? 0b0001 : top.equals("plain") ? 0b0011 : top.equals("loose") ? 0b0111 : 0b1001;
            probe.both(() -> {
                probe.due("read", probe.read(text.toString()), 0);
                for (int a = 4; a < 17; a++) {
                    for (int b = 0; b < 17; b++) {
                        boolean want = a < 16 && b < 16 && (b < 4 ? (under >> b & 1) == 1 : b <= a);
                        probe.due("below(" + a + ", " + b + ") of a chain below " + top, probe.x.below(a, b), want);
                    }
                    if (a < 16) {
                        probe.due("kind(" + a + ", 1) of a chain below " + top, probe.x.kind(a, 1), (under & 0b1100) == 0 ? 1 : 0);
                    }
                }
            });
        }
    }

    private void methodAtItsEdges() {
        probe.fresh();
        edges("method", 0, 7, (m, what) -> probe.x.method(m, what));
        probe.both(() -> {
            probe.due("read", probe.read(SMALL), 2);
            edges("method", 2, 7, (m, what) -> probe.x.method(m, what));
        });
    }

    /** The highest KIND's bit, the last METHOD, the NAME of the last byte but one. */
    private void fullestMethods() {
        String kinds = "kind a below plain;".repeat(11) + "kind k below plain;";
        String text = kinds + "way f;".repeat(10) + "way g free throws k,all,k,plain{if{throw k;}throw all;}way h over g;";
        probe.both(() -> {
            probe.due("read", probe.read(text), 12);
            edges("method", 12, 7, (m, what) -> probe.x.method(m, what));
            int[] want = {text.indexOf("way g") + 4, 1, 1 << 15 | 1, 1 << 15 | 3, 0, 1, NONE};
            int[] last = {text.indexOf("way h") + 4, 0, 0, 0, 0, 0, 10};
            for (int what = 0; what < 7; what++) {
                probe.due("method(10, " + what + ")", probe.x.method(10, what), want[what]);
                probe.due("method(11, " + what + ")", probe.x.method(11, what), last[what]);
            }
        });
        probe.both(() -> {
            probe.due("read", probe.read(" ".repeat(1994) + "way z;"), 1);
            probe.due("method(0, 0)", probe.x.method(0, 0), 1998);
        });
    }

    /** "Without a BLOCK 2 and 4 are 0": beside one with an empty BLOCK, which can be LEFT. */
    private void methodWithoutBlock() {
        probe.both(() -> {
            probe.due("read", probe.read("way f over g free throws plain; way g free throws plain { }"), 2);
            int[] want = {4, 0, 0, 2, 0, 1, 1};
            int[] empty = {36, 1, 0, 2, 1, 1, NONE};
            for (int what = 0; what < 7; what++) {
                probe.due("method(0, " + what + ")", probe.x.method(0, what), want[what]);
                probe.due("method(1, " + what + ")", probe.x.method(1, what), empty[what]);
            }
        });
    }

    private void statementAtItsEdges() {
        probe.fresh();
        edges("statement", 0, 5, (i, what) -> probe.x.statement(i, what));
        probe.both(() -> {
            probe.due("read", probe.read(SMALL), 2);
            edges("statement", 2, 5, (i, what) -> probe.x.statement(i, what));
        });
    }

    private void fullestStatements() {
        probe.both(() -> {
            probe.due("read", probe.read("way e;".repeat(11) + "way f{" + "do;".repeat(119) + "{}}"), 12);
            edges("statement", 120, 5, (i, what) -> probe.x.statement(i, what));
            int[] want = {11, 66 + 6 + 357, 0, 1, 11};
            for (int what = 0; what < 5; what++) {
                probe.due("statement(119, " + what + ")", probe.x.statement(119, what), want[what]);
            }
        });
    }

    /** "4 its METHOD": METHODS without a BLOCK have numbers, too. */
    private void statementsOfTheirMethods() {
        probe.both(() -> {
            probe.due("read", probe.read("way f; way g { do; run { do; }; } way h { } way g { do; } way i; way g { try { } finally { do; } }"), 6);
            int[] want = {1, 1, 1, 3, 5, 5};
            for (int i = 0; i < want.length; i++) {
                probe.due("statement(" + i + ", 4)", probe.x.statement(i, 4), want[i]);
            }
        });
    }

    private void refusedCallsChangeNothing() {
        probe.both(() -> {
            probe.tape("loose");
            String before = probe.state();
            for (int far : Probe.FAR) {
                probe.x.told(far);
                probe.x.mistake(far, 0);
                probe.x.mistake(0, far);
                probe.x.kind(far, 0);
                probe.x.kind(0, far);
                probe.x.below(far, 0);
                probe.x.method(far, 0);
                probe.x.method(0, far);
                probe.x.statement(far, 0);
                probe.x.statement(0, far);
                probe.x.walk(far, far);
            }
            probe.due("the state behind refused calls", probe.state(), before);
            probe.due("find of what stayed", probe.x.find(), 102);
        });
    }
}
