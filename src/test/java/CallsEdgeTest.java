/** Promise 1, "What it is" and "Not promised" at their edges: a new object, and an object up to its 512th call. */
public final class CallsEdgeTest {
    private static final int NONE = ThrowRules.NONE, BAD = ThrowRules.BAD;
    private static final String TEXT = "kind a below plain; way f throws a { do; throw a; do; } way g;";

    private final Probe probe = new Probe("CallsEdgeTest");

    public static void main(String[] args) {
        CallsEdgeTest test = new CallsEdgeTest();
        test.theUnitOfAnEmptyText();
        test.theEmptyTape();
        test.noWalkWas();
        test.asBehindAReadOfNothing();
        test.objectsAreApart();
        test.everyCallAsThe512th();
        test.fiveFullTexts();
        test.manyShortTexts();
        test.manyWalks();
        test.manyRefusedCalls();
        test.probe.end();
    }

    /** "A UNIT of an empty text" */
    private void theUnitOfAnEmptyText() {
        probe.fresh();
        int[] told = {4, 0, 0, 0};
        for (int what = 0; what < told.length; what++) {
            probe.due("told(" + what + ")", probe.x.told(what), told[what]);
        }
        probe.due("kind(3, 0)", probe.x.kind(3, 0), 0);
        probe.due("kind(4, 0)", probe.x.kind(4, 0), BAD);
        probe.due("below(2, 0)", probe.x.below(2, 0), true);
        probe.due("below(4, 0)", probe.x.below(4, 0), false);
        probe.due("method(0, 0)", probe.x.method(0, 0), BAD);
        probe.due("statement(0, 0)", probe.x.statement(0, 0), BAD);
        probe.due("mistake(0, 0)", probe.x.mistake(0, 0), BAD);
        probe.due("walk(0, 0)", probe.x.walk(0, 0), BAD);
    }

    /** "THE TAPE is empty" */
    private void theEmptyTape() {
        probe.fresh();
        probe.due("told(4)", probe.x.told(4), 0);
        probe.due("cut(1)", probe.x.cut(1), BAD);
        probe.due("cut(0)", probe.x.cut(0), 0);
        probe.due("find()", probe.x.find(), NONE);
        probe.due("read()", probe.x.read(), 0);
        probe.due("feed", probe.x.feed(0, 0, 0, 0, 0), 20);
    }

    /** "no walk was" */
    private void noWalkWas() {
        probe.fresh();
        probe.due("steps()", probe.x.steps(), 0);
        probe.due("read", probe.read(TEXT), 2);
        probe.due("steps() behind a read", probe.x.steps(), 0);
        probe.due("walk of none", probe.x.walk(1, 0), BAD);
        probe.due("steps() behind no walk", probe.x.steps(), 0);
        probe.due("walk", probe.x.walk(0, 0), 4);
        probe.due("steps() behind a walk", probe.x.steps(), 2);
    }

    private void asBehindAReadOfNothing() {
        probe.fresh();
        String before = probe.state();
        probe.due("read of nothing", probe.x.read(), 0);
        probe.due("the state behind it", probe.state(), before);
    }

    private void objectsAreApart() {
        probe.used();
        Counted first = probe.x;
        String before = probe.state();
        probe.fresh();
        String empty = probe.state();
        probe.due("told(0) of the new one", probe.x.told(0), 4);
        probe.due("steps() of the new one", probe.x.steps(), 0);
        probe.read("kind q below loose; way p { do; do; do; }");
        probe.x.walk(0, 1);
        probe.tape("way");
        probe.x = first;
        probe.due("the state of the first one", probe.state(), before);
        probe.fresh();
        probe.due("the state of a third one", probe.state(), empty);
    }

    private interface Last {
        void on(Counted x);
    }

    /** An object that has had 511 calls since it was made, a read of TEXT first and a walk among them; then one call more. */
    private void at512(Last last) {
        probe.fresh();
        probe.due("read", probe.read(TEXT), 2);
        probe.due("walk", probe.x.walk(0, 9), 4);
        probe.x.feed(0x616c6c20, 0, 0, 0, 0);
        probe.x.cut(3);
        while (probe.x.left() > 1) {
            probe.due("told(4) on the way", probe.x.told(4), 3);
        }
        last.on(probe.x);
        probe.due("calls left", probe.x.left(), 0);
    }

    /** "An object is used for at most 512 calls after it has been made" */
    private void everyCallAsThe512th() {
        at512(x -> probe.due("the 512th, feed", x.feed(0, 0, 0, 0, 0), 23));
        at512(x -> probe.due("the 512th, cut", x.cut(1), 2));
        at512(x -> probe.due("the 512th, cut of too many", x.cut(4), BAD));
        at512(x -> probe.due("the 512th, read", x.read(), -10));
        at512(x -> probe.due("the 512th, told", x.told(0), 5));
        at512(x -> probe.due("the 512th, mistake", x.mistake(0, 0), 7));
        at512(x -> probe.due("the 512th, kind", x.kind(4, 0), 1));
        at512(x -> probe.due("the 512th, below", x.below(4, 1), true));
        at512(x -> probe.due("the 512th, method", x.method(0, 2), 16));
        at512(x -> probe.due("the 512th, statement", x.statement(2, 1), TEXT.lastIndexOf("do")));
        at512(x -> probe.due("the 512th, find", x.find(), 100));
        at512(x -> probe.due("the 512th, walk", x.walk(0, 5), 4));
        at512(x -> probe.due("the 512th, steps", x.steps(), 2));
    }

    /** The dearest runs: five times 2000 bytes with as many parts as they can have. */
    private void fiveFullTexts() {
        String one = "try{}catch(b|b|b|b e){}";
        String text = "kind a below plain;".repeat(12) + "way f;".repeat(11) + "way g{" + one.repeat(73) + "}";
        text = text + " ".repeat(2000 - text.length());
        probe.fresh();
        for (int n = 0; n < 5; n++) {
            for (int i = 0; i < 2000; i += 20) {
                probe.due("feed", probe.feed(text, i), i + 20);
            }
            probe.due("read " + n, probe.x.read(), 12);
        }
        int[] told = {16, 12, 73, 11 + 10 + 4 * 73, 0};
        for (int what = 0; what < told.length; what++) {
            probe.due("told(" + what + ")", probe.x.told(what), told[what]);
        }
        probe.due("walk", probe.x.walk(11, 4), NONE);
        probe.due("the 512th, steps", probe.x.steps(), 73);
        probe.due("calls left", probe.x.left(), 0);
    }

    private void manyShortTexts() {
        probe.fresh();
        for (int n = 0; n < 256; n++) {
            probe.due("feed", probe.feed(n % 3 == 0 ? "way f{do;}way g{do;}" : n % 3 == 1 ? "kind a below plain; " : "way f{try{}catch(a)}", 0), 20);
            probe.due("read " + n, probe.x.read(), n % 3 == 0 ? 2 : n % 3 == 1 ? 0 : -10 - 18);
        }
        probe.due("calls left", probe.x.left(), 0);
    }

    private void manyWalks() {
        probe.fresh();
        probe.due("read", probe.read("way f { loop { try { throw all; } catch (all e) { set e; } finally { do; } } }"), 1);
        while (probe.x.left() > 1) {
            probe.due("walk", probe.x.walk(0, probe.x.left()), ThrowRules.ENDLESS);
        }
        probe.due("the 512th, steps", probe.x.steps(), 300);
    }

    private void manyRefusedCalls() {
        probe.fresh();
        probe.due("read", probe.read(TEXT), 2);
        String before = probe.state();
        for (int n = 0; n < 300; n++) {
            int far = Probe.FAR[n % Probe.FAR.length];
            switch (n % 7) {
                case 0: probe.due("cut", probe.x.cut(far), BAD); break;
                case 1: probe.due("told", probe.x.told(far), BAD); break;
                case 2: probe.due("mistake", probe.x.mistake(far, n), BAD); break;
                case 3: probe.due("kind", probe.x.kind(n, far), BAD); break;
                case 4: probe.due("method", probe.x.method(far, far), BAD); break;
                case 5: probe.due("statement", probe.x.statement(far, n), BAD); break;
                default: probe.due("walk", probe.x.walk(far, n), BAD); break;
            }
        }
        probe.due("the state behind refused calls", probe.state(), before);
    }
}
