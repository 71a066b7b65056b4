/** What the tests share: an object of ThrowRules, texts fed to it, and answers compared with those due. */
final class Probe {
    private final String test;
    private int calls;
    private int wrong;
    ThrowRules x = new ThrowRules();

    Probe(String test) {
        this.test = test;
    }

    void fresh() {
        x = new ThrowRules();
    }

    void due(String call, long got, long want) {
        calls++;
        if (got != want) {
            wrong++;
            System.out.println(test + ": " + call + " answered " + got + ", due is " + want);
        }
    }

    void due(String call, boolean got, boolean want) {
        due(call, got ? 1 : 0, want ? 1 : 0);
    }

    /** Puts a text behind THE TAPE: blanks fill up the last feed and are cut off again. */
    void tape(String text) {
        int before = x.told(4);
        for (int i = 0; i < text.length(); i += 20) {
            x.feed(four(text, i), four(text, i + 4), four(text, i + 8), four(text, i + 12), four(text, i + 16));
        }
        x.cut(before + text.length());
        due("told(4) behind " + text, x.told(4), before + text.length());
    }

    private static int four(String text, int from) {
        int number = 0;
        for (int i = from; i < from + 4; i++) {
            number = number << 8 | (i < text.length() ? text.charAt(i) & 255 : 32);
        }
        return number;
    }

    int read(String text) {
        tape(text);
        return x.read();
    }

    int find(String text) {
        tape(text);
        return x.find();
    }

    /** A right text: how many METHODS it has. */
    void right(String text, int methods) {
        due("read of " + text, read(text), methods);
    }

    /** A text that is wrong where the mark ^ stands in it. */
    void wrongAtMark(String marked) {
        int place = marked.indexOf('^');
        String text = marked.substring(0, place) + marked.substring(place + 1);
        fresh();
        due("read of " + text, read(text), -10 - place);
    }

    /** All MISTAKES of a text on a new object, each "code@place" or "code@place:kind". */
    void mistakes(String text, String... want) {
        fresh();
        int answer = read(text);
        due("read of " + text + " is right", answer >= 0, true);
        StringBuilder got = new StringBuilder();
        for (int k = 0; k < x.told(3); k++) {
            got.append(x.mistake(k, 0)).append('@').append(x.mistake(k, 1));
            if (x.mistake(k, 2) != ThrowRules.NONE) {
                got.append(':').append(x.mistake(k, 2));
            }
            got.append(' ');
        }
        StringBuilder all = new StringBuilder();
        for (String one : want) {
            all.append(one).append(' ');
        }
        calls++;
        if (!got.toString().equals(all.toString())) {
            wrong++;
            System.out.println(test + ": " + text + " has the mistakes " + got + ", due are " + all);
        }
    }

    void end() {
        System.out.println(test + ": " + calls + " answers, " + wrong + " not as due");
        if (wrong != 0 || calls == 0) {
            System.exit(1);
        }
    }
}
