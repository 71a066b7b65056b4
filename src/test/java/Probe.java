/** What the tests share: an object of ThrowRules, texts fed to it, and answers compared with those due. */
final class Probe {
    private final String test;
    private int answers;
    private int wrong;
    ThrowRules x = new ThrowRules();

    Probe(String test) {
        this.test = test;
    }

    void fresh() {
        x = new ThrowRules();
    }

    void due(String call, long got, long want) {
        due(call, Long.toString(got), Long.toString(want));
    }

    void due(String call, boolean got, boolean want) {
        due(call, Boolean.toString(got), Boolean.toString(want));
    }

    void due(String call, String got, String want) {
        answers++;
        if (!got.equals(want)) {
            wrong++;
            System.out.println(test + ": " + call + " answered " + got + ", due is " + want);
        }
    }

    /** Puts a text behind THE TAPE: blanks fill up the last feed and are cut off again. */
    void tape(String text) {
        int before = x.told(4);
        for (int i = 0; i < text.length(); i += 20) {
            x.feed(four(text, i), four(text, i + 4), four(text, i + 8), four(text, i + 12), four(text, i + 16));
        }
        x.cut(before + text.length());
        due("told(4) behind " + text, x.told(4), before + text.length());
    }

    private static int four(String text, int from) {
        int number = 0;
        for (int i = from; i < from + 4; i++) {
            number = number << 8 | (i < text.length() ? text.charAt(i) & 255 : 32);
        }
        return number;
    }

    int read(String text) {
        tape(text);
        return x.read();
    }

    int find(String text) {
        tape(text);
        return x.find();
    }

    /** A right text on a new object: how many METHODS it has. */
    void right(String text, int methods) {
        fresh();
        due("read of " + text, read(text), methods);
    }

    /** A text that is wrong where the mark ^ stands in it. */
    void wrongAtMark(String marked) {
        int place = marked.indexOf('^');
        fresh();
        due("read of " + marked, read(marked.substring(0, place) + marked.substring(place + 1)), -10 - place);
    }

    /** A text without what stands in it between < and >. */
    static String bare(String marked) {
        return marked.replaceAll("<[^>]*>", "");
    }

    /**
     * The MISTAKES of a text on a new object. Ahead of each TOKEN that has some they stand as
     * <code> or <code:kind>, more than one with commas between them.
     */
    void mistakes(String marked) {
        fresh();
        due("read of " + marked + " is right", read(bare(marked)) >= 0, true);
        StringBuilder got = new StringBuilder();
        for (int k = 0; k < x.told(3); k++) {
            got.append(x.mistake(k, 0)).append('@').append(x.mistake(k, 1)).append(':').append(x.mistake(k, 2)).append(' ');
        }
        StringBuilder want = new StringBuilder();
        int place = 0;
        for (int i = 0; i < marked.length(); i++) {
            if (marked.charAt(i) != '<') {
                place++;
                continue;
            }
            int end = marked.indexOf('>', i);
            for (String one : marked.substring(i + 1, end).split(",")) {
                String[] parts = one.split(":");
                want.append(parts[0]).append('@').append(place).append(':').append(parts.length == 1 ? "-1" : parts[1]).append(' ');
            }
            i = end;
        }
        due("the mistakes of " + marked, got.toString(), want.toString());
    }

    /**
     * What the STATEMENTS of a text can throw, and whether they can be LEFT, on a new object. Ahead
     * of each there stands <+> or, if it can not be LEFT, <->, with NAMES of KINDS behind the sign.
     */
    void judged(String marked) {
        fresh();
        due("read of " + marked + " is right", read(bare(marked)) >= 0, true);
        int place = 0;
        int number = 0;
        for (int i = 0; i < marked.length(); i++) {
            if (marked.charAt(i) != '<') {
                place++;
                continue;
            }
            int end = marked.indexOf('>', i);
            String call = "statement " + number + " of " + marked;
            due(call + ", place", x.statement(number, 1), place);
            due(call + ", thrown", x.statement(number, 2), set(marked.substring(i + 2, end)));
            due(call + ", left", x.statement(number, 3), marked.charAt(i + 1) == '+' ? 1 : 0);
            number++;
            i = end;
        }
        due("told(2) of " + marked, x.told(2), number);
    }

    /** The set of the KINDS whose NAMES stand in a list, with commas between them. */
    int set(String names) {
        int set = 0;
        for (String one : names.split(",")) {
            if (!one.isEmpty()) {
                int found = find(one);
                due("find of " + one + " is a kind", found >= 100 && found < 116, true);
                set |= 1 << found - 100;
            }
        }
        return set;
    }

    void end() {
        System.out.println(test + ": " + answers + " answers, " + wrong + " not as due");
        if (wrong != 0 || answers == 0) {
            System.exit(1);
        }
    }
}
