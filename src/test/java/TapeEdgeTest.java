/** Promises 2 and 3 at their edges, sentence by sentence. */
public final class TapeEdgeTest {
    private static final int BAD = ThrowRules.BAD;
    private static final int BLANKS = 0x20202020;
    private static final int SPOILED = 0x3f3f3f3f;

    private final Probe probe = new Probe("TapeEdgeTest");

    public static void main(String[] args) {
        TapeEdgeTest test = new TapeEdgeTest();
        test.twentyBytesTheHighestFirst();
        test.theyComeBehindTheTape();
        test.bytesOfAnyNumber();
        test.atMost2000();
        test.aRefusedFeedChangesNothing();
        test.emptyAgainBehindReadAndFind();
        test.howManyWent();
        test.cutOfNothing();
        test.cutBelowZeroOrBehindTheEnd();
        test.cutOfAFullTape();
        test.theFirstOnesStay();
        test.bytesThatWentAreGone();
        test.probe.end();
    }

    private void blanks(int feeds) {
        for (int n = 0; n < feeds; n++) {
            probe.x.feed(BLANKS, BLANKS, BLANKS, BLANKS, BLANKS);
        }
    }

    /** "Twenty bytes come behind THE TAPE, of each number the highest first": one wrong byte among blanks tells its place. */
    private void twentyBytesTheHighestFirst() {
        for (int place = 0; place < 20; place++) {
            int[] five = {BLANKS, BLANKS, BLANKS, BLANKS, BLANKS};
            five[place / 4] ^= 0xe0 << 24 - 8 * (place % 4);
            int at = place;
            probe.both(() -> {
                probe.due("feed", probe.x.feed(five[0], five[1], five[2], five[3], five[4]), 20);
                probe.due("read with a wrong byte at " + at, probe.x.read(), -10 - at);
            });
        }
    }

    /** "behind THE TAPE ..: how many it has", also behind a cut. */
    private void theyComeBehindTheTape() {
        for (int length = 0; length <= 21; length++) {
            int before = length;
            probe.both(() -> {
                blanks(2);
                probe.x.cut(before);
                probe.due("feed behind " + before, probe.x.feed(SPOILED, 0, 0, 0, 0), before + 20);
                probe.due("told(4)", probe.x.told(4), before + 20);
                probe.due("read", probe.x.read(), -10 - before);
            });
        }
    }

    /** Numbers of any size are four bytes each: the lowest, the highest and -1 begin with bytes that begin no TOKEN. */
    private void bytesOfAnyNumber() {
        for (int number : new int[] {Integer.MIN_VALUE, Integer.MAX_VALUE, -1, 0, 1, 0x00202020}) {
            probe.both(() -> {
                probe.due("feed", probe.x.feed(BLANKS, number, BLANKS, BLANKS, BLANKS), 20);
                probe.due("read of " + number, probe.x.read(), -14);
            });
        }
        probe.both(() -> {
            probe.due("feed", probe.x.feed(0x0a0a0a0a, 0x200a200a, 0x0a0a2020, BLANKS, 0x2020200a), 20);
            probe.due("read of bytes 10 and 32", probe.x.read(), 0);
        });
    }

    /** "BAD: it would have more than 2000": the last length where a feed is taken is 1980. */
    private void atMost2000() {
        for (int length = 1960; length <= 2000; length++) {
            int before = length;
            boolean taken = before <= 1980;
            probe.both(() -> {
                blanks(100);
                probe.due("told(4) when full", probe.x.told(4), 2000);
                probe.due("cut(" + before + ")", probe.x.cut(before), 2000 - before);
                probe.due("feed behind " + before, probe.x.feed(BLANKS, BLANKS, BLANKS, BLANKS, BLANKS ^ 0xe0), taken ? before + 20 : BAD);
                probe.due("told(4)", probe.x.told(4), taken ? before + 20 : before);
                probe.due("read", probe.x.read(), taken ? -10 - (before + 19) : 0);
            });
        }
    }

    /** A refused feed leaves THE TAPE as it was, its bytes too, and all else. */
    private void aRefusedFeedChangesNothing() {
        probe.both(() -> {
            for (int n = 1; n <= 100; n++) {
                probe.due("feed " + n, probe.feed(n == 100 ? "             way last" : "", 0), 20 * n);
            }
            String before = probe.state();
            for (int n = 0; n < 3; n++) {
                probe.due("feed of a full tape", probe.x.feed(SPOILED, SPOILED, SPOILED, SPOILED, SPOILED), BAD);
            }
            probe.due("the state behind refused feeds", probe.state(), before);
            probe.due("cut(1999)", probe.x.cut(1999), 1);
            probe.due("feed of 1999", probe.x.feed(SPOILED, SPOILED, SPOILED, SPOILED, SPOILED), BAD);
            probe.due("cut(1980)", probe.x.cut(1980), 19);
            probe.due("feed of 1980", probe.feed("      way a; way last", 1), 2000);
            probe.due("read wants a ; at the end", probe.x.read(), -2010);
        });
    }

    private void emptyAgainBehindReadAndFind() {
        probe.both(() -> {
            blanks(100);
            probe.due("read of 2000 blanks", probe.x.read(), 0);
            blanks(100);
            probe.due("told(4)", probe.x.told(4), 2000);
            probe.due("feed", probe.x.feed(0, 0, 0, 0, 0), BAD);
            probe.due("find of 2000 blanks", probe.x.find(), ThrowRules.NONE);
            probe.due("feed behind it", probe.x.feed(0, 0, 0, 0, 0), 20);
        });
    }

    /** "THE TAPE's first n bytes stay: how many went." */
    private void howManyWent() {
        for (int n = 0; n <= 20; n++) {
            int stay = n;
            probe.both(() -> {
                blanks(1);
                probe.due("cut(" + stay + ") of 20", probe.x.cut(stay), 20 - stay);
                probe.due("told(4)", probe.x.told(4), stay);
                probe.due("cut again", probe.x.cut(stay), 0);
                probe.due("one more than there are", probe.x.cut(stay + 1), BAD);
                probe.due("told(4) behind it", probe.x.told(4), stay);
            });
        }
    }

    private void cutOfNothing() {
        probe.both(() -> {
            probe.due("cut(0) of nothing", probe.x.cut(0), 0);
            probe.due("cut(1) of nothing", probe.x.cut(1), BAD);
            probe.due("cut(-1) of nothing", probe.x.cut(-1), BAD);
            probe.due("told(4)", probe.x.told(4), 0);
        });
    }

    /** "BAD: n is below 0, or it has not so many", and nothing changes. */
    private void cutBelowZeroOrBehindTheEnd() {
        probe.both(() -> {
            probe.tape("loose");
            String before = probe.state();
            for (int n : Probe.FAR) {
                probe.due("cut(" + n + ") of 5", probe.x.cut(n), BAD);
            }
            probe.due("cut(6) of 5", probe.x.cut(6), BAD);
            probe.due("the state behind refused cuts", probe.state(), before);
            probe.due("find of what stayed", probe.x.find(), 102);
        });
    }

    private void cutOfAFullTape() {
        probe.both(() -> {
            blanks(100);
            probe.due("cut(2001)", probe.x.cut(2001), BAD);
            probe.due("cut(2000)", probe.x.cut(2000), 0);
            probe.due("cut(1999)", probe.x.cut(1999), 1);
            probe.due("cut(2000) of 1999", probe.x.cut(2000), BAD);
            probe.due("cut(1)", probe.x.cut(1), 1998);
            probe.due("cut(0)", probe.x.cut(0), 1);
            probe.due("told(4)", probe.x.told(4), 0);
        });
    }

    private void theFirstOnesStay() {
        for (int n = 0; n <= 8; n++) {
            int stay = n;
            probe.both(() -> {
                probe.read("way a; way ab; way abc; way abcd; way abcde; way abcdef; way abcdefg; way abcdefgh;");
                probe.tape("abcdefgh");
                probe.due("cut(" + stay + ")", probe.x.cut(stay), 8 - stay);
                probe.due("find of the first " + stay, probe.x.find(), stay == 0 ? ThrowRules.NONE : 199 + stay);
            });
        }
    }

    private void bytesThatWentAreGone() {
        probe.both(() -> {
            probe.tape("alloose");
            probe.due("cut(2)", probe.x.cut(2), 5);
            probe.tape("l");
            probe.due("find of al and l", probe.x.find(), 100);
        });
    }
}
