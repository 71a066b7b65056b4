/** What the tests share: an object of ThrowRules, texts fed to it, and answers compared with those due. */
final class Probe {
    /** Numbers that are no KIND, METHOD, STATEMENT, MISTAKE, place or what of anything. */
    static final int[] FAR = {Integer.MIN_VALUE, Integer.MIN_VALUE + 1, -65536, -256, -33, -32, -10, -3, -2, -1, 2001, 65536, Integer.MAX_VALUE};

    private static final String USED = "kind a below plain; kind b below a; kind l below loose; way f over h free throws a, zz "
        + "{ try (g) { call f { throw b; }; } catch (b | a e) { set e; throw e; } finally { break; } } way g throws b;";

    private final String test;
    private int answers;
    private int wrong;
    private String history = "a new object";
    Counted x = new Counted();

    Probe(String test) {
        this.test = test;
    }

    void fresh() {
        x = new Counted();
        history = "a new object";
    }

    /** An object that has had calls of every kind, taken and refused ones; THE TAPE is empty, a walk was. */
    void used() {
        x = new Counted();
        history = "an object after other calls";
        due("read of a first text", read(USED), 2);
        x.walk(0, 77);
        due("find of a KIND", find("l"), 106);
        due("find of nothing", find("l l"), ThrowRules.NONE);
        due("read of a wrong text", read("kind z below plain; way z { throw z; ) }"), -10 - 37);
        x.feed(-1, 0, 1, 2, 3);
        due("cut(21)", x.cut(21), ThrowRules.BAD);
        due("cut(0)", x.cut(0), 20);
        due("walk(2, 5)", x.walk(2, 5), ThrowRules.BAD);
    }

    /** One case on an object after other calls, then on a new object, which stays. */
    void both(Runnable one) {
        used();
        one.run();
        fresh();
        one.run();
    }

    void due(String call, long got, long want) {
        due(call, Long.toString(got), Long.toString(want));
    }

    void due(String call, boolean got, boolean want) {
        due(call, Boolean.toString(got), Boolean.toString(want));
    }

    void due(String call, String got, String want) {
        answers++;
        if (!got.equals(want)) {
            wrong++;
            System.out.println(test + ", " + history + ": " + call + " answered " + got + ", due is " + want);
        }
    }

    /** Puts a text behind THE TAPE: blanks fill up the last feed and are cut off again. */
    void tape(String text) {
        int before = x.told(4);
        for (int i = 0; i < text.length(); i += 20) {
            feed(text, i);
        }
        x.cut(before + text.length());
        due("told(4) behind " + text, x.told(4), before + text.length());
    }

    /** Feeds the twenty characters of a text from one on, blanks behind its end. */
    int feed(String text, int from) {
        return x.feed(four(text, from), four(text, from + 4), four(text, from + 8), four(text, from + 12), four(text, from + 16));
    }

    private static int four(String text, int from) {
        int number = 0;
        for (int i = from; i < from + 4; i++) {
            number = number << 8 | (i < text.length() ? text.charAt(i) & 255 : 32);
        }
        return number;
    }

    int read(String text) {
        tape(text);
        return x.read();
    }

    int find(String text) {
        tape(text);
        return x.find();
    }

    /** A right text: how many METHODS it has. */
    void right(String text, int methods) {
        both(() -> {
            due("read of " + text, read(text), methods);
            due("told(1) of " + text, x.told(1), methods);
            due("told(4) behind " + text, x.told(4), 0);
        });
    }

    /** A text that is wrong where the mark ^ stands in it. */
    void wrongAtMark(String marked) {
        int place = marked.indexOf('^');
        wrongAt(marked.substring(0, place) + marked.substring(place + 1), place);
    }

    /** A text that is wrong at a place: THE TAPE is empty then, and nothing else changes. */
    void wrongAt(String text, int place) {
        both(() -> {
            String before = state();
            due("read of " + text, read(text), -10 - place);
            due("told(4) behind it", x.told(4), 0);
            due("the state behind the wrong text " + text, state(), before);
        });
    }

    /** All that can be asked of a small UNIT, of the latest walk and of THE TAPE without changing them. */
    String state() {
        StringBuilder text = new StringBuilder();
        int[] counts = new int[5];
        for (int what = 0; what < counts.length; what++) {
            counts[what] = x.told(what);
            text.append(counts[what]).append(' ');
        }
        text.append("steps ").append(x.steps());
        for (int k = 0; k < counts[0]; k++) {
            text.append(" kind ").append(x.kind(k, 0)).append(' ').append(x.kind(k, 1)).append(' ').append(x.kind(k, 2)).append(' ');
            for (int b = 0; b < counts[0]; b++) {
                text.append(x.below(k, b) ? 1 : 0);
            }
        }
        for (int m = 0; m < counts[1]; m++) {
            text.append(" method");
            for (int what = 0; what < 7; what++) {
                text.append(' ').append(x.method(m, what));
            }
        }
        for (int i = 0; i < counts[2]; i++) {
            text.append(" statement");
            for (int what = 0; what < 5; what++) {
                text.append(' ').append(x.statement(i, what));
            }
        }
        return text.append(' ').append(foundMistakes()).toString();
    }

    /** The MISTAKES as they are told, each as code@place:kind. */
    String foundMistakes() {
        StringBuilder text = new StringBuilder();
        int count = x.told(3);
        for (int k = 0; k < count; k++) {
            text.append(x.mistake(k, 0)).append('@').append(x.mistake(k, 1)).append(':').append(x.mistake(k, 2)).append(' ');
        }
        return text.toString();
    }

    /** A text without what stands in it between < and >. */
    static String bare(String marked) {
        return marked.replaceAll("<[^>]*>", "");
    }

    /**
     * The MISTAKES of a text. Ahead of each TOKEN that has some they stand as <code> or <code:kind>, more than one
     * with commas between them.
     */
    void mistakes(String marked) {
        StringBuilder want = new StringBuilder();
        int place = 0;
        for (int i = 0; i < marked.length(); i++) {
            if (marked.charAt(i) != '<') {
                place++;
                continue;
            }
            int end = marked.indexOf('>', i);
            for (String one : marked.substring(i + 1, end).split(",")) {
                String[] parts = one.split(":");
                want.append(parts[0]).append('@').append(place).append(':').append(parts.length == 1 ? "-1" : parts[1]).append(' ');
            }
            i = end;
        }
        both(() -> {
            due("read of " + marked + " is right", read(bare(marked)) >= 0, true);
            due("the mistakes of " + marked, foundMistakes(), want.toString());
        });
    }

    /**
     * What the STATEMENTS of a text can throw, and whether they can be LEFT. Ahead of each there stands <+> or, if it
     * can not be LEFT, <->, with NAMES of KINDS behind the sign.
     */
    void judged(String marked) {
        both(() -> judgedHere(marked));
    }

    private void judgedHere(String marked) {
        due("read of " + marked + " is right", read(bare(marked)) >= 0, true);
        int place = 0;
        int number = 0;
        for (int i = 0; i < marked.length(); i++) {
            if (marked.charAt(i) != '<') {
                place++;
                continue;
            }
            int end = marked.indexOf('>', i);
            String call = "statement " + number + " of " + marked;
            due(call + ", place", x.statement(number, 1), place);
            due(call + ", thrown", x.statement(number, 2), set(marked.substring(i + 2, end)));
            due(call + ", left", x.statement(number, 3), marked.charAt(i + 1) == '+' ? 1 : 0);
            number++;
            i = end;
        }
        due("told(2) of " + marked, x.told(2), number);
    }

    /** The set of the KINDS whose NAMES stand in a list, with commas between them. */
    int set(String names) {
        int set = 0;
        for (String one : names.split(",")) {
            if (!one.isEmpty()) {
                int found = find(one);
                due("find of " + one + " is a kind", found >= 100 && found < 116, true);
                set |= 1 << found - 100;
            }
        }
        return set;
    }

    void end() {
        System.out.println(test + ": " + answers + " answers, " + wrong + " not as due");
        if (wrong != 0 || answers == 0) {
            System.exit(1);
        }
    }
}
