/** Promises 2 and 3: feed and cut. */
public final class TapeTest {
    private static final int BLANKS = 0x20202020;

    public static void main(String[] args) {
        Probe probe = new Probe("TapeTest");
        orderOfBytes(probe);
        full(probe);
        cuts(probe);
        probe.end();
    }

    private static void orderOfBytes(Probe probe) {
        Counted x = probe.x;
        // way zabcde ;\n way q;
        probe.due("feed of a text", x.feed(0x77617920, 0x7a616263, 0x6465203b, 0x0a207761, 0x7920713b), 20);
        probe.due("told(4)", x.told(4), 20);
        probe.due("read()", x.read(), 2);
        probe.due("method(0, 0)", x.method(0, 0), 4);
        probe.due("method(1, 0)", x.method(1, 0), 18);
        probe.due("told(4) behind read", x.told(4), 0);
        probe.due("find zabcde", probe.find("zabcde"), 200);
        probe.due("feed of high bytes", x.feed(-1, -1, -1, -1, -1), 20);
        probe.due("read of high bytes", x.read(), -10);
        probe.due("feed of low bytes", x.feed(BLANKS, 0x20200020, 0, 0, 0), 20);
        probe.due("read of low bytes", x.read(), -16);
    }

    private static void full(Probe probe) {
        probe.fresh();
        Counted x = probe.x;
        for (int n = 1; n <= 100; n++) {
            probe.due("feed " + n, x.feed(BLANKS, BLANKS, BLANKS, BLANKS, BLANKS), 20 * n);
        }
        probe.due("feed 101", x.feed(0, 0, 0, 0, 0), ThrowRules.BAD);
        probe.due("told(4)", x.told(4), 2000);
        probe.due("cut(1981)", x.cut(1981), 19);
        probe.due("feed at 1981", x.feed(0, 0, 0, 0, 0), ThrowRules.BAD);
        probe.due("told(4) at 1981", x.told(4), 1981);
        probe.due("cut(1980)", x.cut(1980), 1);
        probe.due("feed at 1980", x.feed(BLANKS, BLANKS, BLANKS, BLANKS, 0x20202041), 2000);
        probe.due("read of 2000", x.read(), -10 - 1999);
        probe.due("feed of the empty tape", x.feed(0, 0, 0, 0, 0), 20);
    }

    private static void cuts(Probe probe) {
        probe.fresh();
        Counted x = probe.x;
        probe.due("cut(1) of nothing", x.cut(1), ThrowRules.BAD);
        probe.due("cut(-1) of nothing", x.cut(-1), ThrowRules.BAD);
        x.feed(0x616c6c65, 0x72726f72, BLANKS, BLANKS, BLANKS);
        probe.due("cut(21)", x.cut(21), ThrowRules.BAD);
        probe.due("cut(-1)", x.cut(-1), ThrowRules.BAD);
        probe.due("cut(lowest)", x.cut(Integer.MIN_VALUE), ThrowRules.BAD);
        probe.due("cut(highest)", x.cut(Integer.MAX_VALUE), ThrowRules.BAD);
        probe.due("told(4)", x.told(4), 20);
        probe.due("cut(20)", x.cut(20), 0);
        probe.due("cut(3)", x.cut(3), 17);
        probe.due("told(4) behind it", x.told(4), 3);
        probe.due("find of the first three", x.find(), 100);
        x.feed(BLANKS, BLANKS, BLANKS, BLANKS, BLANKS);
        probe.due("cut(0)", x.cut(0), 20);
        probe.due("told(4) behind cut(0)", x.told(4), 0);
    }
}
