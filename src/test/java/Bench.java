import java.util.function.IntSupplier;

/** What the tests of boundaries share: texts told, answers compared, and a desk as all that can be seen of it. */
final class Bench {
    private final String name;
    private String sentence = "";
    private int sentences;
    private int asked;
    private int wrong;

    Bench(String name) {
        this.name = name;
    }

    /** The document's words by which the answers from here on are due. */
    void says(int promise, String words) {
        sentences++;
        sentence = "promise " + promise + ", \"" + words + "\"";
    }

    void due(String call, int got, int want) {
        asked++;
        if (got != want) {
            wrong++;
            System.out.println(sentence + ": " + call + " answered " + got + ", due is " + want);
        }
    }

    void dueText(String what, String got, String want) {
        asked++;
        if (!got.equals(want)) {
            wrong++;
            System.out.println(sentence + ": " + what + " is " + got + ", due is " + want);
        }
    }

    /** A call by which nothing may change, be it refused or only a question. */
    void still(SlipDesk x, String call, IntSupplier asking, int want) {
        String before = seen(x);
        due(call, asking.getAsInt(), want);
        dueText("what is seen behind " + call, seen(x), before);
    }

    /** The last thing that a test does: it ends with 1, if an answer was wrong. */
    void close() {
        System.out.println(name + ": " + sentences + " sentences, " + asked + " answers, " + wrong + " of them wrong");
        if (wrong > 0) {
            System.exit(1);
        }
    }

    /** Puts a text of at most 400 bytes behind the tape; it is fed in twenties, so that zeros come behind it. */
    static void feed(SlipDesk x, String text) {
        int from = x.count(14);
        for (int i = 0; i < text.length(); i += 20) {
            int[] n = new int[5];
            for (int j = 0; j < 20 && i + j < text.length(); j++) {
                n[j / 4] |= (text.charAt(i + j) & 255) << 24 - 8 * (j % 4);
            }
            x.feed(n[0], n[1], n[2], n[3], n[4]);
        }
        x.end(from + text.length());
    }

    static int slip(SlipDesk x, String text) {
        x.end(0);
        feed(x, text);
        return x.slip();
    }

    static int rule(SlipDesk x, String text) {
        x.end(0);
        feed(x, text);
        return x.rule();
    }

    static int fault(int place, int kind) {
        return -2 - (1 + 8 * place + kind);
    }

    void slipStands(String text, int offers) {
        due("slip of " + text, slip(new SlipDesk(), text), offers);
    }

    void slipFault(String text, int place, int kind) {
        due("slip of " + text, slip(new SlipDesk(), text), fault(place, kind));
    }

    void ruleStands(String text) {
        due("rule of " + text, rule(new SlipDesk(), text), 0);
    }

    void ruleFault(String text, int place, int kind) {
        due("rule of " + text, rule(new SlipDesk(), text), fault(place, kind));
    }

    /** A new desk with a slip, so many days on. */
    SlipDesk desk(String slip, int days) {
        SlipDesk x = new SlipDesk();
        if (slip(x, slip) < 0) {
            dueText("a slip that the test tells", slip, "one that stands");
        }
        pass(x, days);
        return x;
    }

    /** The same by a rule that is in force from the begin on. */
    SlipDesk ruled(String slip, String rule, int days) {
        SlipDesk x = desk(slip, 0);
        forceNew(x, rule);
        pass(x, days);
        return x;
    }

    void forceNew(SlipDesk x, String rule) {
        int number = rule(x, rule);
        if (number < 0) {
            dueText("a rule that the test tells", rule, "one that stands");
        }
        x.force(number);
    }

    static void pass(SlipDesk x, int days) {
        for (int i = 0; i < days; i++) {
            x.day();
        }
    }

    static String many(int n, String text) {
        return text.repeat(n);
    }

    /** All that calls without a change tell of a desk; the notes are seen by what they leave open. */
    static String seen(SlipDesk x) {
        StringBuilder s = new StringBuilder();
        for (int what = 0; what < 15; what++) {
            s.append(x.count(what)).append(' ');
        }
        for (int o = 0; o < 9; o++) {
            s.append("| ").append(x.line(o)).append(' ').append(x.out(o)).append(' ');
            for (int what = 0; what < 6; what++) {
                s.append(x.offer(o, what)).append(' ');
            }
            for (int i = 0; i < x.offer(o, 2); i++) {
                s.append(x.need(o, i, 0)).append('/').append(x.need(o, i, 1)).append('/').append(x.need(o, i, 2))
                        .append(' ');
            }
        }
        s.append("| ").append(x.ruled(0)).append(' ').append(x.ruled(1)).append(' ').append(x.sizes(0, 0));
        return s.toString();
    }
}
