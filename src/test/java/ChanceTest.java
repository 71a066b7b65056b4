import java.util.Random;

/**
 * Texts and calls made by chance, from fixed seeds: no call may throw, two objects answer alike, MISTAKES are in
 * their order, and no walk throws a CHECKED KIND that is below none of those that the METHOD can throw. (A finally
 * with a break that belongs to none, or with a throw of an unknown NAME, can not be LEFT, but is, when it is walked:
 * what is thrown is looked at only in texts whose finallies are among some tame ones.)
 */
public final class ChanceTest {
    private static final String[] KINDS = {"a", "b", "c", "d", "all", "plain", "loose", "error", "zz"};
    private static final String[] WAYS = {"f", "g", "h", "i", "zz"};
    private static final String[] PARAMETERS = {"e", "p", "a"};
    private static final String[] PIECES = {"{", "}", "(", ")", ";", ",", "|", " ", "\n", "a", "e", "kind ", "below ", "way ", "over ", "free ",
        "throws ", "do", "call ", "throw ", "set ", "if", "else", "while", "loop", "break", "return", "try", "catch", "finally", "run", "\u0080", "Q"};

    private static final String[] TAME = {"", "do;", "return;", "call f;", "throw loose;", "throw all;", "loop{}", "loop{break;}", "try{return;}finally{}"};

    private final Random chance;
    private int deepest;
    private boolean tame;

    private ChanceTest(long seed) {
        chance = new Random(seed);
    }

    public static void main(String[] args) {
        Probe probe = new Probe("ChanceTest");
        ChanceTest maker = new ChanceTest(20261116);
        for (int n = 0; n < 3000; n++) {
            maker.tame = n % 2 == 0;
            judgeTwice(probe, maker.fittingUnit(), n, maker.tame);
        }
        for (int n = 0; n < 3000; n++) {
            judgeTwice(probe, maker.spoiled(), n, false);
        }
        for (int n = 0; n < 400; n++) {
            maker.anyCalls(probe);
        }
        probe.end();
    }

    private static void judgeTwice(Probe probe, String text, int n, boolean tame) {
        probe.fresh();
        int answer = probe.read(text);
        Counted first = probe.x;
        probe.fresh();
        probe.due("a second read of " + text, probe.read(text), answer);
        Counted second = probe.x;
        for (int what = 0; what < 5; what++) {
            probe.due("told(" + what + ") of " + text, second.told(what), first.told(what));
        }
        if (answer < 0) {
            probe.due("place " + answer + " is in " + text, answer <= -10 && answer >= -10 - text.length(), true);
            return;
        }
        order(probe, second, text);
        for (int m = 0; m < answer; m++) {
            int hasBlock = first.method(m, 1);
            int can = first.method(m, 2);
            for (int k = 0; k < 4; k++) {
                long seed = n * 7919L + k * 104729L;
                int end = first.walk(m, seed);
                probe.due("walk(" + m + ", " + seed + ") again", second.walk(m, seed), end);
                probe.due("steps() again", second.steps(), first.steps());
                probe.due("method " + m + " has a block", end != ThrowRules.BAD, hasBlock == 1);
                if (tame && end >= 0 && first.kind(end, 1) == 1) {
                    probe.due("kind " + end + " can come out of method " + m + " of " + text, canThrow(first, can, end), true);
                }
            }
        }
    }

    private static void order(Probe probe, Counted x, String text) {
        long before = -1;
        int count = Math.min(x.told(3), 100);
        for (int k = 0; k < count; k++) {
            long now = (x.mistake(k, 1) * 100L + x.mistake(k, 0)) * 100 + x.mistake(k, 2) + 1;
            probe.due("mistake " + k + " behind the one before, of " + text, before < now, true);
            before = now;
        }
    }

    private static boolean canThrow(Counted x, int can, int kind) {
        for (int k = 0; k < 16; k++) {
            if ((can >> k & 1) == 1 && x.below(kind, k)) {
                return true;
            }
        }
        return false;
    }

    /** Any calls with any numbers: none may throw. */
    private void anyCalls(Probe probe) {
        probe.fresh();
        Counted x = probe.x;
        probe.read(fittingUnit());
        for (int n = 0; n < 180; n++) {
            int a = number();
            int b = number();
            switch (chance.nextInt(13)) {
                case 0: x.feed(a, b, number(), number(), number()); break;
                case 1: x.cut(a); break;
                case 2: x.read(); break;
                case 3: x.told(a); break;
                case 4: x.mistake(a, b); break;
                case 5: x.kind(a, b); break;
                case 6: x.below(a, b); break;
                case 7: x.method(a, b); break;
                case 8: x.statement(a, b); break;
                case 9: x.find(); break;
                case 10: x.walk(a, chance.nextLong()); break;
                case 11: x.steps(); break;
                default: x.cut(x.told(4)); break;
            }
        }
        probe.due("the tape is no longer than it may be", x.told(4) >= 0 && x.told(4) <= 2000, true);
    }

    private int number() {
        switch (chance.nextInt(4)) {
            case 0: return chance.nextInt();
            case 1: return chance.nextBoolean() ? Integer.MIN_VALUE : Integer.MAX_VALUE;
            default: return chance.nextInt(20) - 3;
        }
    }

    /** THE TAPE has at most 2000 bytes. */
    private String fittingUnit() {
        String text = unit();
        while (text.length() > 2000) {
            text = unit();
        }
        return text;
    }

    private String unit() {
        deepest = 2 + chance.nextInt(6);
        StringBuilder text = new StringBuilder();
        int kinds = chance.nextInt(6);
        for (int n = 0; n < kinds; n++) {
            text.append("kind ").append(KINDS[chance.nextInt(4)]).append(" below ").append(one(KINDS)).append("; ");
        }
        int ways = 1 + chance.nextInt(4);
        for (int n = 0; n < ways; n++) {
            text.append("way ").append(one(WAYS));
            text.append(rarely(5) ? " over " + one(WAYS) : "").append(rarely(3) ? " free" : "");
            text.append(rarely(2) ? " throws " + list(KINDS, ",") : "");
            text.append(rarely(3) ? ";" : block(1));
        }
        return text.toString();
    }

    /** A text with some pieces of it gone or changed, or pieces alone. */
    private String spoiled() {
        StringBuilder text = new StringBuilder(rarely(4) ? "" : unit());
        text.setLength(Math.min(text.length(), 1500));
        int pieces = 1 + chance.nextInt(text.length() == 0 ? 60 : 3);
        for (int n = 0; n < pieces; n++) {
            int at = chance.nextInt(text.length() + 1);
            if (rarely(3) && at < text.length()) {
                text.deleteCharAt(at);
            } else {
                text.insert(at, one(PIECES));
            }
        }
        return text.toString();
    }

    private boolean rarely(int n) {
        return chance.nextInt(n) == 0;
    }

    private String one(String[] names) {
        return names[chance.nextInt(names.length)];
    }

    private String list(String[] names, String separator) {
        StringBuilder text = new StringBuilder(one(names));
        while (rarely(2) && text.length() < 12) {
            text.append(separator).append(one(names));
        }
        return text.toString();
    }

    private String block(int depth) {
        StringBuilder text = new StringBuilder("{");
        int count = chance.nextInt(depth < deepest ? 4 : 2);
        for (int n = 0; n < count; n++) {
            text.append(statement(depth));
        }
        return text.append("}").toString();
    }

    private String statement(int depth) {
        int below = depth + 1;
        switch (chance.nextInt(depth < deepest ? 16 : 6)) {
            case 0: return "do;";
            case 1: return "call " + one(WAYS) + ";";
            case 2: return "throw " + one(rarely(2) ? KINDS : PARAMETERS) + ";";
            case 3: return "set " + one(PARAMETERS) + ";";
            case 4: return "break;";
            case 5: return "return;";
            case 6: return "if" + block(below);
            case 7: return "if" + block(below) + "else" + block(below);
            case 8: return "while" + block(below);
            case 9: return "loop" + block(below);
            case 10: return "call " + one(WAYS) + block(below) + ";";
            case 11: return "run" + block(below) + (rarely(2) ? "throws " + list(KINDS, ",") : "") + ";";
            case 12: return block(below);
            default: return tryStatement(below);
        }
    }

    private String tryStatement(int below) {
        StringBuilder text = new StringBuilder("try");
        text.append(rarely(3) ? "(" + list(WAYS, ",") + ")" : "").append(block(below));
        int catches = 1 + chance.nextInt(3);
        for (int n = 0; n < catches; n++) {
            text.append("catch(").append(list(KINDS, "|")).append(" ").append(one(PARAMETERS)).append(")").append(block(below));
        }
        if (rarely(3)) {
            text.append("finally").append(tame ? "{" + one(TAME) + "}" : block(below));
        }
        return text.toString();
    }
}
