import java.util.ArrayDeque;
import java.util.ArrayList;
import java.util.Arrays;
import java.util.Comparator;
import java.util.Deque;
import java.util.HashMap;
import java.util.List;
import java.util.Map;
import java.util.TreeMap;
import java.util.function.ToLongFunction;

/** The document told a second time, as plainly as the whole Java library lets one, to compare SlipDesk with. */
final class Model {
    private static final class Fault extends RuntimeException {
        private static final long serialVersionUID = 1L;

        final int number;

        Fault(int place, int kind) {
            super(null, null, false, false);
            number = 1 + 8 * place + kind;
        }
    }

    private interface Test {
        boolean holds(Map<String, Long> words);
    }

    private record Clause(ToLongFunction<Map<String, Long>> sum, Test test) { }

    private record Need(int offer, int kind, int n) { }

    private record Slip(int order, List<Integer> writes, List<Integer> stands, List<Need> needs) { }

    private record Note(int day, int offer) { }

    private static final class State {
        int order;
        int day;
        List<Integer> writes;
        List<Integer> stands;
        List<Integer> lines = new ArrayList<>();
        List<Integer> out = new ArrayList<>();
        int[] paid = new int[9];

        State(Slip slip) {
            order = slip.order;
            writes = new ArrayList<>(slip.writes);
            stands = new ArrayList<>(slip.stands);
        }

        State(State s) {
            order = s.order;
            day = s.day;
            writes = new ArrayList<>(s.writes);
            stands = new ArrayList<>(s.stands);
            lines = new ArrayList<>(s.lines);
            out = new ArrayList<>(s.out);
            paid = s.paid.clone();
        }

        List<Integer> waiting() {
            List<Integer> w = new ArrayList<>();
            for (int i = 0; i < writes.size(); i++) {
                if (!lines.contains(i) && !out.contains(i)) {
                    w.add(i);
                }
            }
            return w;
        }

        int placed() {
            return lines.stream().mapToInt(writes::get).sum();
        }

        int shortOf() {
            return Math.max(0, order - placed());
        }

        Map<Integer, Integer> signed() {
            Map<Integer, Integer> signed = new HashMap<>();
            int left = order;
            List<Integer> others = new ArrayList<>();
            for (int l : lines) {
                if (stands.get(l) == 1 && writes.get(l) <= left) {
                    signed.put(l, writes.get(l));
                    left -= writes.get(l);
                } else {
                    others.add(l);
                }
            }
            int sum = others.stream().mapToInt(writes::get).sum();
            if (sum <= left) {
                others.forEach(o -> signed.put(o, writes.get(o)));
            } else {
                signed.putAll(part(left, others, writes::get));
            }
            return signed;
        }

        boolean holds(Need need) {
            return switch (need.kind) {
                case 0 -> placed() >= need.n;
                case 1 -> lines.contains(need.n);
                case 2 -> signed().get(need.offer) >= need.n;
                case 3 -> lines.size() <= need.n;
                case 4 -> shortOf() <= need.n;
                case 5 -> day <= need.n;
                default -> throw new IllegalStateException();
            };
        }

        int settle(Slip slip) {
            int went = 0;
            while (true) {
                Integer first = null;
                for (int l : lines) {
                    if (slip.needs.stream().anyMatch(n -> n.offer == l && !holds(n))) {
                        first = l;
                        break;
                    }
                }
                if (first == null) {
                    return went;
                }
                lines.remove(first);
                out.add(first);
                went++;
            }
        }

        int cancel(Slip slip, int offer) {
            lines.remove((Integer) offer);
            out.add(offer);
            return 1 + settle(slip);
        }

        int dayBy(Slip slip, List<Clause> rule) {
            int best = -1;
            long most = 0;
            for (int o : waiting()) {
                if (rule == null) {
                    best = o;
                    break;
                }
                long sum = 0;
                Map<String, Long> words = words(slip, o);
                for (Clause c : rule) {
                    if (c.test == null || c.test.holds(words)) {
                        sum = c.sum.applyAsLong(words);
                        break;
                    }
                }
                if (sum > most) {
                    most = sum;
                    best = o;
                }
            }
            if (best >= 0) {
                lines.add(best);
            }
            settle(slip);
            day++;
            return best;
        }

        private Map<String, Long> words(Slip slip, int o) {
            Map<String, Long> m = new HashMap<>();
            m.put("offer", (long) o);
            m.put("writes", (long) writes.get(o));
            m.put("stands", (long) stands.get(o));
            m.put("needs", slip.needs.stream().filter(n -> n.offer == o).count());
            m.put("lines", (long) lines.size());
            m.put("placed", (long) placed());
            m.put("order", (long) order);
            m.put("short", (long) shortOf());
            m.put("waiting", (long) waiting().size());
            m.put("gone", (long) out.size());
            m.put("day", (long) day);
            return m;
        }
    }

    private interface Weight {
        int of(int offer);
    }

    private static Map<Integer, Integer> part(int much, List<Integer> among, Weight weight) {
        Map<Integer, Integer> parts = new HashMap<>();
        long whole = among.stream().mapToLong(weight::of).sum();
        long left = much;
        for (int a : among) {
            int p = (int) ((long) much * weight.of(a) / whole);
            parts.put(a, p);
            left -= p;
        }
        List<Integer> byLoss = new ArrayList<>(among);
        byLoss.sort(Comparator.comparingLong(a -> -((long) much * weight.of(a) % whole)));
        for (int i = 0; i < left; i++) {
            parts.merge(byLoss.get(i), 1, Integer::sum);
        }
        return parts;
    }

    // ---- reading

    private static final List<String> WORDS = List.of("offer", "writes", "stands", "needs", "lines", "placed",
            "order", "short", "waiting", "gone", "day");

    private static final class Parser {
        final int[] t;
        int at;
        int parts;

        Parser(List<Integer> tape) {
            t = tape.stream().mapToInt(b -> b).toArray();
        }

        void blanks() {
            while (at < t.length && t[at] == 32) {
                at++;
            }
        }

        int peek() {
            blanks();
            return at < t.length ? t[at] : -1;
        }

        String peekWord() {
            blanks();
            StringBuilder s = new StringBuilder();
            for (int i = at; i < t.length && t[i] >= 'a' && t[i] <= 'z'; i++) {
                s.append((char) t[i]);
            }
            return s.toString();
        }

        Fault fault(int kind) {
            blanks();
            return new Fault(at, kind);
        }

        String digits() {
            blanks();
            StringBuilder s = new StringBuilder();
            for (int i = at; i < t.length && t[i] >= '0' && t[i] <= '9'; i++) {
                s.append((char) t[i]);
            }
            return s.toString();
        }

        int number(int low, int high) {
            String d = digits();
            if (d.isEmpty()) {
                throw fault(0);
            }
            if (d.length() > 5 || Integer.parseInt(d) < low || Integer.parseInt(d) > high) {
                throw fault(1);
            }
            at += d.length();
            return Integer.parseInt(d);
        }

        boolean more() {
            if (peek() < 0) {
                return false;
            }
            if (peek() != ';') {
                throw fault(0);
            }
            at++;
            return true;
        }

        Slip slip() {
            int order = 0;
            List<Integer> writes = new ArrayList<>();
            List<Integer> stands = new ArrayList<>();
            List<Need> needs = new ArrayList<>();
            int clause = 0;
            do {
                String w = peekWord();
                if (!List.of("slip", "offer", "needs").contains(w)) {
                    throw fault(0);
                }
                if (clause == 0 && !w.equals("slip") || clause > 0 && w.equals("slip") || clause == 40
                        || w.equals("offer") && writes.size() == 9 || w.equals("needs") && needs.size() == 12) {
                    throw fault(4);
                }
                at += w.length();
                clause++;
                if (w.equals("slip")) {
                    order = number(1, 999);
                } else if (w.equals("offer")) {
                    writes.add(number(1, 999));
                    stands.add(number(0, 1));
                } else {
                    needs.add(new Need(number(0, writes.size() - 1), number(0, 5), number(0, 999)));
                }
            } while (more());
            return new Slip(order, writes, stands, needs);
        }

        List<Clause> rule() {
            List<Clause> clauses = new ArrayList<>();
            do {
                if (!peekWord().equals("take")) {
                    throw fault(0);
                }
                if (clauses.size() == 12) {
                    throw fault(4);
                }
                at += 4;
                ToLongFunction<Map<String, Long>> sum = sum();
                Test test = null;
                if (peekWord().equals("if")) {
                    at += 2;
                    test = test(0);
                }
                clauses.add(new Clause(sum, test));
            } while (more());
            return clauses;
        }

        Test test(int depth) {
            Test left = partOf(depth);
            while (peekWord().equals("or")) {
                at += 2;
                Test a = left;
                Test b = partOf(depth);
                left = m -> a.holds(m) || b.holds(m);
            }
            return left;
        }

        Test partOf(int depth) {
            Test left = fact(depth);
            while (peekWord().equals("and")) {
                at += 3;
                Test a = left;
                Test b = fact(depth);
                left = m -> a.holds(m) && b.holds(m);
            }
            return left;
        }

        Test fact(int depth) {
            if (peekWord().equals("not")) {
                if (depth == 10) {
                    throw fault(2);
                }
                at += 3;
                Test a = fact(depth + 1);
                return m -> !a.holds(m);
            }
            if (peek() == '[') {
                if (depth == 10) {
                    throw fault(2);
                }
                at++;
                Test a = test(depth + 1);
                if (peek() != ']') {
                    throw fault(0);
                }
                at++;
                return a;
            }
            var a = sum();
            String sign = "";
            for (String s : List.of("<=", ">=", "<", "=", ">")) {
                if (sign.isEmpty() && peek() == s.charAt(0)
                        && (s.length() == 1 || at + 1 < t.length && t[at + 1] == '=')) {
                    sign = s;
                }
            }
            if (sign.isEmpty()) {
                throw fault(0);
            }
            if (parts++ >= 60) {
                throw fault(3);
            }
            at += sign.length();
            var b = sum();
            String s = sign;
            return m -> {
                int c = Long.compare(a.applyAsLong(m), b.applyAsLong(m));
                return c < 0 && s.startsWith("<") || c > 0 && s.startsWith(">") || c == 0 && s.endsWith("=");
            };
        }

        ToLongFunction<Map<String, Long>> sum() {
            var left = term();
            while (peek() == '+' || peek() == '-') {
                int op = t[at++];
                var a = left;
                var b = term();
                left = m -> op == '+' ? a.applyAsLong(m) + b.applyAsLong(m) : a.applyAsLong(m) - b.applyAsLong(m);
            }
            return left;
        }

        ToLongFunction<Map<String, Long>> term() {
            var left = value();
            while (peek() == '*' || peek() == '/' || peek() == '%') {
                int op = t[at++];
                var a = left;
                var b = value();
                left = m -> {
                    long x = a.applyAsLong(m);
                    long y = b.applyAsLong(m);
                    return op == '*' ? x * y : y == 0 ? 0 : op == '/' ? x / y : x % y;
                };
            }
            return left;
        }

        ToLongFunction<Map<String, Long>> value() {
            String w = peekWord();
            String d = digits();
            if (d.isEmpty() && !WORDS.contains(w)) {
                throw fault(0);
            }
            if (d.length() > 5) {
                throw fault(1);
            }
            if (parts++ >= 60) {
                throw fault(3);
            }
            at += w.length() + d.length();
            if (d.isEmpty()) {
                return m -> m.get(w);
            }
            long n = Long.parseLong(d);
            return m -> n;
        }
    }

    // ---- the desk

    private record Image(Slip slip, State now, List<Note> notes, int force, long x) { }

    private List<Integer> tape = new ArrayList<>();
    private final List<List<Clause>> rules = new ArrayList<>();
    private Slip slip;
    private State now;
    private List<Note> notes = new ArrayList<>();
    private int force = -1;
    private long x;
    private final Deque<State> past = new ArrayDeque<>();
    private final Map<Integer, Image> images = new HashMap<>();

    private boolean isOffer(int o) {
        return slip != null && o >= 0 && o < slip.writes.size();
    }

    private boolean isLine(int o) {
        return isOffer(o) && now.lines.contains(o);
    }

    private static boolean in(int n, int low, int high) {
        return n >= low && n <= high;
    }

    private List<Clause> forced() {
        return force < 0 ? null : rules.get(force);
    }

    private void act() {
        past.addLast(new State(now));
        if (past.size() > 20) {
            past.removeFirst();
        }
    }

    private int bits(List<Integer> offers) {
        return offers.stream().mapToInt(o -> 1 << o).sum();
    }

    int feed(int a, int b, int c, int d, int e) {
        if (tape.size() > 380) {
            return -1;
        }
        for (int n : new int[] {a, b, c, d, e}) {
            tape.addAll(List.of(n >>> 24, n >>> 16 & 255, n >>> 8 & 255, n & 255));
        }
        return tape.size();
    }

    int end(int n) {
        if (n < 0 || n > tape.size()) {
            return -1;
        }
        tape = new ArrayList<>(tape.subList(0, n));
        return n;
    }

    int slip() {
        List<Integer> t = tape;
        tape = new ArrayList<>();
        try {
            slip = new Parser(t).slip();
        } catch (Fault f) {
            return -2 - f.number;
        }
        now = new State(slip);
        notes = new ArrayList<>();
        past.clear();
        return slip.writes.size();
    }

    int rule() {
        if (rules.size() == 6) {
            return -1;
        }
        List<Integer> t = tape;
        tape = new ArrayList<>();
        try {
            rules.add(new Parser(t).rule());
        } catch (Fault f) {
            return -2 - f.number;
        }
        return rules.size() - 1;
    }

    int force(int r) {
        if (!in(r, -1, rules.size() - 1)) {
            return -2;
        }
        int was = force;
        force = r;
        return was;
    }

    int offer(int o, int what) {
        if (!isOffer(o) || !in(what, 0, 5)) {
            return -1;
        }
        return new int[] {now.writes.get(o), now.stands.get(o),
            (int) slip.needs.stream().filter(n -> n.offer == o).count(),
            now.lines.contains(o) ? 1 : now.out.contains(o) ? 2 : 0,
            now.signed().getOrDefault(o, 0), now.paid[o]}[what];
    }

    int need(int o, int i, int what) {
        if (!isOffer(o) || !in(what, 0, 2)) {
            return -1;
        }
        List<Need> of = slip.needs.stream().filter(n -> n.offer == o).toList();
        if (!in(i, 0, of.size() - 1)) {
            return -1;
        }
        Need n = of.get(i);
        return what == 0 ? n.kind : what == 1 ? n.n : isLine(o) && now.holds(n) ? 1 : 0;
    }

    int line(int p) {
        return slip != null && in(p, 0, now.lines.size() - 1) ? now.lines.get(p) : -1;
    }

    int out(int p) {
        return slip != null && in(p, 0, now.out.size() - 1) ? now.out.get(p) : -1;
    }

    int day() {
        if (slip == null || now.day >= 999) {
            return -1;
        }
        act();
        int taken = now.dayBy(slip, forced());
        return taken < 0 ? -2 : taken;
    }

    int cancel(int o) {
        if (!isLine(o)) {
            return -1;
        }
        act();
        return now.cancel(slip, o);
    }

    int order(int n) {
        if (slip == null || !in(n, 1, 999) || n == now.order) {
            return -1;
        }
        act();
        now.order = n;
        return now.settle(slip);
    }

    int write(int o, int n) {
        if (!isLine(o) || !in(n, 1, 999) || n == now.writes.get(o)) {
            return -1;
        }
        act();
        now.writes.set(o, n);
        now.settle(slip);
        return now.signed().getOrDefault(o, -2);
    }

    int claim(int much) {
        if (slip == null || now.lines.isEmpty() || !in(much, 1, 9999)) {
            return -1;
        }
        act();
        part(much, now.lines, now.signed()::get).forEach((o, p) -> now.paid[o] = Math.min(9999, now.paid[o] + p));
        return now.paid[now.lines.get(0)];
    }

    int undo() {
        if (past.isEmpty()) {
            return -1;
        }
        now = past.removeLast();
        return past.size();
    }

    int would(int o, int n) {
        if (!isLine(o) || !in(n, 1, 999)) {
            return -1;
        }
        State s = new State(now);
        s.writes.set(o, n);
        s.settle(slip);
        return s.signed().getOrDefault(o, 0);
    }

    int least(int o, int goal) {
        if (!isLine(o) || !in(goal, 1, 999)) {
            return -1;
        }
        for (int n = 1; n <= 999; n++) {
            if (would(o, n) >= goal) {
                return n;
            }
        }
        return -2;
    }

    int worst(int what) {
        if (slip == null || !in(what, 0, 1)) {
            return -1;
        }
        int which = -2;
        int most = -2;
        for (int l : now.lines) {
            State s = new State(now);
            s.cancel(slip, l);
            if (s.shortOf() > most) {
                most = s.shortOf();
                which = l;
            }
        }
        return what == 0 ? which : most;
    }

    int firm() {
        if (slip == null) {
            return -1;
        }
        int bits = 0;
        for (int l : now.lines) {
            boolean stays = true;
            for (int other : now.lines) {
                if (other != l) {
                    State s = new State(now);
                    s.cancel(slip, other);
                    stays &= s.lines.contains(l);
                }
            }
            bits |= stays ? 1 << l : 0;
        }
        return bits;
    }

    private int[] fewest(int from, java.util.function.IntPredicate fits) {
        int[] best = null;
        for (int set = 0; set < 512; set++) {
            if ((set & ~from) == 0 && fits.test(set) && (best == null || Integer.bitCount(set) < best[0])) {
                best = new int[] {Integer.bitCount(set), set};
            }
        }
        return best;
    }

    private int signedOf(int set) {
        return now.signed().entrySet().stream().filter(e -> (set >> e.getKey() & 1) == 1)
                .mapToInt(Map.Entry::getValue).sum();
    }

    int half(int what) {
        if (slip == null || !in(what, 0, 1)) {
            return -1;
        }
        int all = bits(now.lines);
        return now.lines.isEmpty() ? -2 : fewest(all, s -> 2 * signedOf(s) > signedOf(all))[what];
    }

    int agree(int set, int what) {
        if (slip == null || !in(what, 0, 1) || set < 0 || (set & ~bits(now.lines)) != 0) {
            return -1;
        }
        if (now.lines.isEmpty()) {
            return -2;
        }
        int all = bits(now.lines);
        return fewest(all & ~set, s -> ((s | set) >> now.lines.get(0) & 1) == 1
                && 3 * signedOf(s | set) >= 2 * signedOf(all))[what];
    }

    private void permute(List<Integer> left, List<Integer> row, List<List<Integer>> all) {
        if (left.isEmpty()) {
            all.add(new ArrayList<>(row));
        }
        for (int o : left) {
            List<Integer> rest = new ArrayList<>(left);
            rest.remove((Integer) o);
            row.add(o);
            permute(rest, row, all);
            row.remove(row.size() - 1);
        }
    }

    int rows(int what) {
        if (slip == null || !in(what, 0, 5)) {
            return -2;
        }
        List<Integer> w = now.waiting();
        List<List<Integer>> all = new ArrayList<>();
        permute(w.subList(0, Math.min(4, w.size())), new ArrayList<>(), all);
        int[] best = null;
        List<Integer> bestRow = null;
        for (List<Integer> row : all) {
            State s = new State(now);
            for (int o : row) {
                s.lines.add(o);
                s.settle(slip);
            }
            int[] got = {s.shortOf(), -s.lines.size()};
            if (best == null || Arrays.compare(got, best) < 0) {
                best = got;
                bestRow = row;
            }
        }
        return what == 0 ? best[0] : what == 1 ? -best[1] : what - 2 < bestRow.size() ? bestRow.get(what - 2) : -1;
    }

    int ahead(int n, int what) {
        if (slip == null || !in(n, 0, 60) || !in(what, 0, 3)) {
            return -1;
        }
        State s = new State(now);
        for (int i = 0; i < n; i++) {
            s.dayBy(slip, forced());
        }
        return new int[] {s.placed(), s.lines.size(), s.shortOf(), s.out.size()}[what];
    }

    int full() {
        if (slip == null) {
            return -1;
        }
        State s = new State(now);
        for (int i = 0; i < 60; i++) {
            s.dayBy(slip, forced());
            if (s.shortOf() == 0) {
                return now.day + i;
            }
        }
        return -2;
    }

    int taken(int o) {
        if (!isOffer(o) || !now.waiting().contains(o)) {
            return -1;
        }
        State s = new State(now);
        for (int i = 0; i < 60; i++) {
            if (s.dayBy(slip, forced()) == o) {
                return now.day + i;
            }
        }
        return -2;
    }

    private int[] course(State s, List<Clause> rule) {
        int[] course = new int[31];
        for (int i = 0; i < 31; i++) {
            course[i] = s.dayBy(slip, rule);
        }
        return course;
    }

    private boolean noted(int[] course) {
        return notes.stream().allMatch(n -> course[n.day] == n.offer);
    }

    int sizes(int o, int what) {
        if (!isOffer(o) || !in(what, 0, 1)) {
            return -1;
        }
        List<Integer> fit = new ArrayList<>();
        for (int w = 10; w <= 990; w += 10) {
            State s = new State(slip);
            s.writes.set(o, w);
            if (noted(course(s, forced()))) {
                fit.add(w);
            }
        }
        return what == 0 ? fit.size() : fit.isEmpty() ? -2 : fit.get(0);
    }

    int standing(int o) {
        if (!isOffer(o)) {
            return -1;
        }
        int bits = 0;
        for (int st = 0; st < 2; st++) {
            State s = new State(slip);
            s.stands.set(o, st);
            bits |= noted(course(s, forced())) ? 1 << st : 0;
        }
        return bits;
    }

    int rests(int one, int other, int what) {
        if (!isLine(one) || !isLine(other) || one == other || !in(what, 0, 2)) {
            return -1;
        }
        int[][][] has = new int[3][3][2];
        for (int i = 0; i < 3; i++) {
            for (int j = 0; j < 3; j++) {
                State s = new State(now);
                s.writes.set(one, Math.min(999, (i + 1) * now.writes.get(one)));
                s.writes.set(other, Math.min(999, (j + 1) * now.writes.get(other)));
                s.settle(slip);
                has[i][j][0] = 3 * s.signed().getOrDefault(one, 0) - s.writes.get(one);
                has[i][j][1] = 3 * s.signed().getOrDefault(other, 0) - s.writes.get(other);
            }
        }
        List<int[]> found = new ArrayList<>();
        for (int i = 0; i < 3; i++) {
            for (int j = 0; j < 3; j++) {
                int a = has[i][j][0];
                int b = has[i][j][1];
                if (a >= has[0][j][0] && a >= has[1][j][0] && a >= has[2][j][0]
                        && b >= has[i][0][1] && b >= has[i][1][1] && b >= has[i][2][1]) {
                    found.add(new int[] {i, j});
                }
            }
        }
        return what == 0 ? found.size() : found.isEmpty() ? -2 : found.get(0)[what - 1];
    }

    int pence(int much, int o) {
        return in(much, 0, 9999) && isLine(o) ? part(much, now.lines, now.signed()::get).get(o) : -1;
    }

    int note(int n, int o) {
        if (n == -1) {
            notes = new ArrayList<>();
            return 0;
        }
        if (slip == null || !in(n, 0, 30) || o != -1 && !isOffer(o) || notes.size() == 10) {
            return -2;
        }
        notes.add(new Note(n, o));
        return notes.size();
    }

    private Map<Integer, int[]> fitting() {
        Map<Integer, int[]> fit = new TreeMap<>();
        for (int r = -1; r < rules.size(); r++) {
            int[] course = course(new State(slip), r < 0 ? null : rules.get(r));
            if (noted(course)) {
                fit.put(r, course);
            }
        }
        return fit;
    }

    int ruled(int what) {
        if (slip == null || !in(what, 0, 1)) {
            return -3;
        }
        Map<Integer, int[]> fit = fitting();
        return what == 0 ? fit.size() : fit.isEmpty() ? -2 : fit.keySet().iterator().next();
    }

    int look(int what) {
        if (slip == null || !in(what, 0, 1)) {
            return -1;
        }
        Map<Integer, int[]> fit = fitting();
        if (fit.isEmpty()) {
            return -2;
        }
        int best = -1;
        int fewest = 99;
        for (int d = 0; d < 31; d++) {
            Map<Integer, Integer> groups = new HashMap<>();
            for (int[] course : fit.values()) {
                groups.merge(course[d], 1, Integer::sum);
            }
            int most = groups.values().stream().mapToInt(v -> v).max().getAsInt();
            if (most < fewest) {
                fewest = most;
                best = d;
            }
        }
        return what == 0 ? best : fewest;
    }

    int seed(int n) {
        if (n < 0) {
            return -1;
        }
        int was = (int) x;
        x = n;
        return was;
    }

    private int draw() {
        x = (x * 1103515245L + 12345L) % 2147483648L;
        return (int) (x / 65536);
    }

    int seasons(int m, int n, int p, int what) {
        if (slip == null || !in(m, 1, 10) || !in(n, 1, 30) || !in(p, 0, 100) || !in(what, 0, 1)) {
            return -1;
        }
        long was = x;
        int sum = 0;
        for (int i = 0; i < m; i++) {
            State s = new State(now);
            for (int d = 0; d < n; d++) {
                if (draw() % 100 < p && !slip.writes.isEmpty()) {
                    int o = draw() % slip.writes.size();
                    if (s.lines.contains(o)) {
                        s.cancel(slip, o);
                    }
                }
                s.dayBy(slip, forced());
            }
            sum += what == 0 ? s.shortOf() : s.lines.size();
        }
        x = was;
        return sum;
    }

    int count(int what) {
        if (!in(what, 0, 14)) {
            return -1;
        }
        boolean no = slip == null;
        return new int[] {no ? 0 : now.order, no ? 0 : slip.writes.size(), rules.size(), force, no ? 0 : now.day,
            no ? 0 : bits(now.waiting()), no ? 0 : bits(now.lines), no ? 0 : now.placed(), no ? 0 : now.shortOf(),
            no ? 0 : signedOf(511), no ? 0 : now.out.size(), notes.size(), past.size(), (int) x, tape.size()}[what];
    }

    int image(int k) {
        if (!in(k, 0, 3)) {
            return -1;
        }
        images.put(k, new Image(slip, slip == null ? null : new State(now), new ArrayList<>(notes), force, x));
        return slip == null ? 0 : now.day;
    }

    int back(int k) {
        Image i = images.get(k);
        if (i == null) {
            return -1;
        }
        slip = i.slip;
        now = slip == null ? null : new State(i.now);
        notes = new ArrayList<>(i.notes);
        force = i.force;
        x = i.x;
        past.clear();
        return slip == null ? 0 : now.day;
    }
}
