import java.util.ArrayList;
import java.util.List;
import java.util.Random;

/** Runs of drawn calls, each answered by SlipDesk and by the Model; the same runs always. Second argument: how many. */
public final class FuzzTest {
    private static final String[] WORDS = {"offer", "writes", "stands", "needs", "lines", "placed", "order", "short",
        "waiting", "gone", "day"};
    private static final String[] SCRAPS = {"slip", "offer", "needs", "take", "if", "and", "or", "not", "[", "]", ";",
        "+", "-", "*", "/", "%", "<", "<=", "=", ">=", ">", "0", "1", "12345", "123456", "1000", "writes", "day",
        "x", "A", "\0", "\u00ff", " "};

    private final Random random;
    private final SlipDesk desk = new SlipDesk();
    private final Model model = new Model();
    private final List<String> told = new ArrayList<>();
    private int calls;
    private boolean wrong;

    private FuzzTest(long seed) {
        random = new Random(seed);
    }

    public static void main(String[] args) {
        int runs = args.length > 1 ? Integer.parseInt(args[1]) : 400;
        int failed = 0;
        long calls = 0;
        for (int seed = 0; seed < runs; seed++) {
            FuzzTest run = new FuzzTest(seed);
            run.go();
            calls += run.calls;
            if (run.wrong && ++failed < 4) {
                run.told.forEach(System.out::println);
                System.out.println("---- run " + seed);
            }
        }
        System.out.println("FuzzTest: " + runs + " runs of " + calls + " calls, " + failed + " of them wrong");
        if (failed > 0) {
            System.exit(1);
        }
    }

    private int below(int n) {
        return random.nextInt(n);
    }

    private void same(String call, int got, int due) {
        calls++;
        told.add(call + " = " + got);
        if (got != due && !wrong) {
            wrong = true;
            told.add("  WRONG, due is " + due);
        }
    }

    private void tell(String text, boolean slip) {
        told.add("text: " + text);
        for (int i = 0; i < text.length(); i += 20) {
            int[] n = new int[5];
            for (int j = 0; j < 20; j++) {
                int b = i + j < text.length() ? text.charAt(i + j) & 255 : below(256);
                n[j / 4] |= b << 24 - 8 * (j % 4);
            }
            same("feed", desk.feed(n[0], n[1], n[2], n[3], n[4]), model.feed(n[0], n[1], n[2], n[3], n[4]));
        }
        same("end " + text.length(), desk.end(text.length()), model.end(text.length()));
        if (slip) {
            same("slip", desk.slip(), model.slip());
        } else {
            same("rule", desk.rule(), model.rule());
        }
    }

    private String slipText() {
        int most = random.nextBoolean() ? 100 : 999;
        int offers = below(10);
        StringBuilder s = new StringBuilder("slip " + (1 + below(most)));
        int told = 0;
        int needs = 0;
        while (told < offers) {
            if (told > 0 && needs < 12 && below(3) == 0) {
                s.append(needText(told, offers, most));
                needs++;
            } else {
                s.append(";offer ").append(1 + below(most)).append(' ').append(below(2));
                told++;
            }
        }
        while (offers > 0 && needs < 12 && below(3) > 0) {
            s.append(needText(told, offers, most));
            needs++;
        }
        return s.toString();
    }

    private String needText(int told, int offers, int most) {
        int kind = below(6);
        int n = switch (kind) {
            case 1 -> below(offers + 1);
            case 3 -> below(9);
            case 5 -> below(12);
            case 2 -> below(most / 4);
            default -> below(most);
        };
        return ";needs " + below(told) + " " + kind + " " + n;
    }

    private String blank() {
        return below(5) == 0 ? "  " : below(3) == 0 ? "" : " ";
    }

    private String value() {
        return below(3) == 0 ? "" + below(below(4) == 0 ? 100000 : 20) : WORDS[below(WORDS.length)];
    }

    private String sum() {
        StringBuilder s = new StringBuilder(value());
        while (below(2) == 0) {
            s.append(blank()).append("+-*/%".charAt(below(5))).append(blank()).append(value());
        }
        return s.toString();
    }

    private String test(int depth) {
        StringBuilder s = new StringBuilder(fact(depth));
        while (below(3) == 0) {
            s.append(below(2) == 0 ? " and " : " or ").append(fact(depth));
        }
        return s.toString();
    }

    private String fact(int depth) {
        int kind = below(6);
        if (depth < 12 && kind == 0) {
            return "not " + fact(depth + 1);
        }
        if (depth < 12 && kind == 1) {
            return "[" + blank() + test(depth + 1) + "]";
        }
        String[] signs = {"<", "<=", "=", ">=", ">"};
        return sum() + blank() + signs[below(5)] + blank() + sum();
    }

    private String ruleText() {
        StringBuilder s = new StringBuilder();
        int clauses = 1 + below(3);
        for (int i = 0; i < clauses; i++) {
            s.append(i > 0 ? ";" : "").append("take ").append(sum());
            if (i < clauses - 1 || below(2) == 0) {
                s.append(" if ").append(test(0));
            }
        }
        return s.length() > 400 ? "take writes" : s.toString();
    }

    private String spoil(String text) {
        StringBuilder s = new StringBuilder(text);
        for (int i = below(3); i >= 0; i--) {
            int at = below(s.length() + 1);
            String scrap = SCRAPS[below(SCRAPS.length)];
            if (below(2) == 0) {
                s.insert(at, scrap);
            } else {
                s.replace(at, Math.min(s.length(), at + 1 + below(4)), scrap);
            }
        }
        return s.length() > 400 ? s.substring(0, 400) : s.toString();
    }

    private void go() {
        if (below(8) == 0) {
            for (int i = 0; i < 30; i++) {
                ask();
            }
        }
        for (int i = below(7); i > 0; i--) {
            tell(below(5) == 0 ? spoil(ruleText()) : ruleText(), false);
        }
        tell(slipText(), true);
        same("force", desk.force(0), model.force(0));
        for (int i = 0; i < 300 && !wrong; i++) {
            int kind = below(100);
            if (kind < 30) {
                act();
                if (below(4) == 0) {
                    seeAll();
                }
            } else if (kind < 33) {
                String text = below(2) == 0 ? slipText() : ruleText();
                tell(below(3) > 0 ? spoil(text) : text, text.startsWith("slip"));
            } else {
                ask();
            }
        }
    }

    /** A number that no promise knows, now and then. */
    private int odd(int usual) {
        int[] odds = {Integer.MIN_VALUE, Integer.MAX_VALUE, -2, 31, 32, 33, 512, 1 << 16, random.nextInt()};
        return below(40) == 0 ? odds[below(odds.length)] : usual;
    }

    /** All that can be seen without reckoning on. */
    private void seeAll() {
        for (int what = 0; what < 15; what++) {
            same("count " + what, desk.count(what), model.count(what));
        }
        for (int o = 0; o < 9; o++) {
            same("line " + o, desk.line(o), model.line(o));
            same("out " + o, desk.out(o), model.out(o));
            for (int what = 0; what < 6; what++) {
                same("offer " + o + " " + what, desk.offer(o, what), model.offer(o, what));
            }
        }
    }

    private int offer() {
        int line = desk.line(below(9));
        return odd(line >= 0 && below(2) == 0 ? line : usualOffer());
    }

    private int usualOffer() {
        return below(12) == 0 ? below(14) - 3 : below(9);
    }

    private int number() {
        return odd(usualNumber());
    }

    private int usualNumber() {
        return edge(1, 999, 1 + below(below(2) == 0 ? 100 : 999));
    }

    /** Now and then one of two bounds, or a number next to it. */
    private int edge(int least, int most, int usual) {
        return below(6) > 0 ? usual : (below(2) == 0 ? least : most) + below(3) - 1;
    }

    private void act() {
        int a = offer();
        int n = number();
        switch (below(9)) {
            case 0, 1, 2, 3 -> same("day", desk.day(), model.day());
            case 4 -> same("cancel " + a, desk.cancel(a), model.cancel(a));
            case 5 -> same("order " + n, desk.order(n), model.order(n));
            case 6 -> same("write " + a + " " + n, desk.write(a, n), model.write(a, n));
            case 7 -> {
                int much = odd(edge(1, 9999, 1 + below(9999)));
                same("claim " + much, desk.claim(much), model.claim(much));
            }
            default -> same("undo", desk.undo(), model.undo());
        }
    }

    private void ask() {
        int a = offer();
        int b = offer();
        int n = number();
        int w = odd(below(4) - 1 + (below(3) == 0 ? below(4) : 0));
        switch (below(30)) {
            case 0 -> same("offer " + a + " " + w, desk.offer(a, w), model.offer(a, w));
            case 1 -> {
                int i = odd(below(5) - 1);
                same("need " + a + " " + i + " " + w, desk.need(a, i, w), model.need(a, i, w));
            }
            case 2 -> same("line " + a, desk.line(a), model.line(a));
            case 3 -> same("out " + a, desk.out(a), model.out(a));
            case 4 -> same("would " + a + " " + n, desk.would(a, n), model.would(a, n));
            case 5 -> same("least " + a + " " + n, desk.least(a, n), model.least(a, n));
            case 6 -> same("worst " + w, desk.worst(w), model.worst(w));
            case 7 -> same("firm", desk.firm(), model.firm());
            case 8 -> same("half " + w, desk.half(w), model.half(w));
            case 9, 10 -> {
                int set = odd(below(4) == 0 ? below(1100) - 300 : desk.count(6) & below(512));
                same("agree " + set + " " + w, desk.agree(set, w), model.agree(set, w));
            }
            case 11, 12 -> {
                int what = odd(below(8) - 1);
                same("rows " + what, desk.rows(what), model.rows(what));
            }
            case 13 -> {
                int many = odd(edge(0, 60, below(61)));
                same("ahead " + many + " " + w, desk.ahead(many, w), model.ahead(many, w));
            }
            case 14 -> same("full", desk.full(), model.full());
            case 15 -> same("taken " + a, desk.taken(a), model.taken(a));
            case 16 -> same("sizes " + a + " " + w, desk.sizes(a, w), model.sizes(a, w));
            case 17 -> same("standing " + a, desk.standing(a), model.standing(a));
            case 18, 19 -> same("rests " + a + " " + b + " " + w, desk.rests(a, b, w), model.rests(a, b, w));
            case 20 -> {
                int much = odd(edge(0, 9999, below(10000)));
                same("pence " + much + " " + a, desk.pence(much, a), model.pence(much, a));
            }
            case 21 -> {
                int d = odd(below(12) == 0 ? -1 : edge(0, 30, below(8)));
                int o = below(4) == 0 ? -1 : a;
                same("note " + d + " " + o, desk.note(d, o), model.note(d, o));
            }
            case 22 -> same("ruled " + w, desk.ruled(w), model.ruled(w));
            case 23 -> same("look " + w, desk.look(w), model.look(w));
            case 24 -> {
                int x = edge(0, Integer.MAX_VALUE, random.nextInt());
                same("seed " + x, desk.seed(x), model.seed(x));
            }
            case 25 -> {
                int m = odd(edge(1, 10, 1 + below(10)));
                int d = odd(edge(1, 30, 1 + below(30)));
                int p = odd(edge(0, 100, below(101)));
                same("seasons " + m + " " + d + " " + p + " " + w, desk.seasons(m, d, p, w),
                        model.seasons(m, d, p, w));
            }
            case 26 -> {
                int what = odd(below(17) - 1);
                same("count " + what, desk.count(what), model.count(what));
            }
            case 27 -> {
                int k = odd(below(6) - 1);
                same("image " + k, desk.image(k), model.image(k));
            }
            case 28 -> {
                int k = odd(below(6) - 1);
                same("back " + k, desk.back(k), model.back(k));
                seeAll();
            }
            default -> {
                int r = odd(below(8) - 1);
                same("force " + r, desk.force(r), model.force(r));
            }
        }
    }
}
