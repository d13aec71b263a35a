import java.math.BigInteger;
import java.util.ArrayList;
import java.util.HashMap;
import java.util.HashSet;
import java.util.List;
import java.util.Map;
import java.util.Random;
import java.util.Set;
import java.util.TreeMap;

/** Random runs of calls against a slow model that is written another way: texts, maps, elimination of states. */
public final class OracleTests {
    private static final int BAD = -1, NO = -2, FULL = -3, NONE = -4;

    record Fraction(BigInteger above, BigInteger below) {
        static final Fraction ZERO = of(0, 1);
        static final Fraction ONE = of(1, 1);

        static Fraction of(long above, long below) {
            return lowest(BigInteger.valueOf(above), BigInteger.valueOf(below));
        }

        static Fraction lowest(BigInteger above, BigInteger below) {
            BigInteger g = above.gcd(below);
            return new Fraction(above.divide(g), below.divide(g));
        }

        Fraction plus(Fraction o) {
            return lowest(above.multiply(o.below).add(o.above.multiply(below)), below.multiply(o.below));
        }

        Fraction minus(Fraction o) {
            return plus(new Fraction(o.above.negate(), o.below));
        }

        Fraction times(Fraction o) {
            return lowest(above.multiply(o.above), below.multiply(o.below));
        }

        Fraction over(Fraction o) {
            return lowest(above.multiply(o.below), below.multiply(o.above));
        }

        int compare(Fraction o) {
            return above.multiply(o.below).compareTo(o.above.multiply(below));
        }

        int part(int part) {
            return (part == 0 ? above : below).intValueExact();
        }
    }

    static final class Model {
        String text = "";
        List<String> rows = List.of(".f/.", "b.xf", "\\f.\\");
        final List<List<String>> past = new ArrayList<>();

        int w() { return rows.get(0).length(); }
        int h() { return rows.size(); }
        String all() { return String.join("", rows); }

        static int many(String cells, String letters) {
            int n = 0;
            for (char c : cells.toCharArray()) {
                n += letters.indexOf(c) >= 0 ? 1 : 0;
            }
            return n;
        }

        static boolean over(String cells) {
            return many(cells, "fb") > 5 || many(cells, "ox") > 4;
        }

        void changeTo(List<String> next) {
            past.add(rows);
            if (past.size() > 4) {
                past.remove(0);
            }
            rows = next;
        }

        List<String> with(int cell, char kind) {
            StringBuilder s = new StringBuilder(all());
            s.setCharAt(cell, kind);
            List<String> next = new ArrayList<>();
            for (int y = 0; y < h(); y++) {
                next.add(s.substring(y * w(), (y + 1) * w()));
            }
            return next;
        }

        List<Integer> doors() {
            List<Integer> found = new ArrayList<>();
            for (int i = 0; i < w() * h(); i++) {
                if ("ox".indexOf(all().charAt(i)) >= 0) {
                    found.add(i);
                }
            }
            return found;
        }

        int write(int letter) {
            if (letter < 32 || letter > 126) return BAD;
            if (text.length() == 60) return FULL;
            text += (char) letter;
            return text.length();
        }

        int wipe() {
            int n = text.length();
            text = "";
            return n;
        }

        int fault() {
            List<String> sofar = new ArrayList<>();
            int at = 0;
            while (at < text.length()) {
                int end = text.indexOf(';', at);
                if (end < 0) return at;
                String item = text.substring(at, end);
                if (!item.matches("r[./\\\\fb#ox]{2,5}")) return at;
                sofar.add(item.substring(1));
                if (sofar.size() > 4 || sofar.get(0).length() != item.length() - 1) return at;
                if (over(String.join("", sofar))) return at;
                at = end + 1;
            }
            return NONE;
        }

        int lay() {
            if (fault() != NONE || text.isEmpty()) return NO;
            List<String> next = new ArrayList<>();
            for (String item : text.split(";")) {
                next.add(item.substring(1));
            }
            rows = next;
            past.clear();
            return w() * h();
        }

        int cell(int cell) {
            return cell < 0 || cell >= w() * h() ? BAD : "./\\fb#ox".indexOf(all().charAt(cell));
        }

        int put(int cell, int kind) {
            if (cell < 0 || cell >= w() * h() || kind < 0 || kind > 7) return BAD;
            char letter = "./\\fb#ox".charAt(kind);
            char was = all().charAt(cell);
            if (was == letter) return NO;
            List<String> next = with(cell, letter);
            if (over(String.join("", next))) return FULL;
            changeTo(next);
            return "./\\fb#ox".indexOf(was);
        }

        int door(int d, int is) {
            if (d < 0 || d >= doors().size() || is < 0 || is > 1) return BAD;
            char letter = is == 1 ? 'o' : 'x';
            if (all().charAt(doors().get(d)) == letter) return NO;
            changeTo(with(doors().get(d), letter));
            return many(all(), "o");
        }

        int turn() {
            if (h() < 2 || w() > 4) return NO;
            List<String> next = new ArrayList<>();
            for (int x = 0; x < w(); x++) {
                StringBuilder row = new StringBuilder();
                for (int y = h() - 1; y >= 0; y--) {
                    char c = rows.get(y).charAt(x);
                    int i = "/\\fb".indexOf(c);
                    row.append(i < 0 ? c : "\\/bf".charAt(i));
                }
                next.add(row.toString());
            }
            changeTo(next);
            return w();
        }

        int undo() {
            if (past.isEmpty()) return NO;
            rows = past.remove(past.size() - 1);
            return past.size();
        }

        boolean port(int p) { return p >= 0 && p < 2 * (w() + h()); }

        /** x, y, dx, dy of a beam that comes in. */
        int[] in(int p) {
            int w = w();
            int h = h();
            if (p < w) return new int[] {p, 0, 0, 1};
            if (p < w + h) return new int[] {w - 1, p - w, -1, 0};
            if (p < 2 * w + h) return new int[] {p - w - h, h - 1, 0, -1};
            return new int[] {0, p - 2 * w - h, 1, 0};
        }

        int portOf(int p, int what) {
            if (!port(p) || what < 0 || what > 1) return BAD;
            int[] b = in(p);
            if (what == 0) return w() * b[1] + b[0];
            return b[3] == -1 ? 0 : b[2] == 1 ? 1 : b[3] == 1 ? 2 : 3;
        }

        static String name(int x, int y, int dx, int dy) { return x + "," + y + "," + dx + "," + dy; }

        /** Where a beam that comes in as named goes, with what shares. */
        static Map<String, Fraction> onward(List<String> room, String state) {
            String[] f = state.split(",");
            int x = Integer.parseInt(f[0]);
            int y = Integer.parseInt(f[1]);
            int dx = Integer.parseInt(f[2]);
            int dy = Integer.parseInt(f[3]);
            Map<String, Fraction> to = new HashMap<>();
            char c = room.get(y).charAt(x);
            Fraction half = Fraction.of(1, 2);
            if (c == '.' || c == 'o') to.put(next(room, x, y, dx, dy), Fraction.ONE);
            if (c == '#' || c == 'x') to.put("swallowed", Fraction.ONE);
            if (c == '/') to.put(next(room, x, y, -dy, -dx), Fraction.ONE);
            if (c == '\\') to.put(next(room, x, y, dy, dx), Fraction.ONE);
            if (c == 'f' || c == 'b') {
                to.put(next(room, x, y, dx, dy), half);
                to.put(c == 'f' ? next(room, x, y, -dy, -dx) : next(room, x, y, dy, dx), half);
            }
            return to;
        }

        static String next(List<String> room, int x, int y, int dx, int dy) {
            int w = room.get(0).length();
            int h = room.size();
            if (y + dy < 0) return "port" + x;
            if (x + dx >= w) return "port" + (w + y);
            if (y + dy >= h) return "port" + (w + h + x);
            if (x + dx < 0) return "port" + (2 * w + h + y);
            return name(x + dx, y + dy, dx, dy);
        }

        static boolean ends(String state) { return state.startsWith("port") || state.equals("swallowed"); }

        String first(int p) {
            int[] b = in(p);
            return name(b[0], b[1], b[2], b[3]);
        }

        /** Each end's share, by taking one state after the other out of the graph; a state that only feeds itself catches. */
        Map<String, Fraction> ends(List<String> room, int p) {
            Map<String, Map<String, Fraction>> graph = new TreeMap<>();
            graph.put("start", new HashMap<>(Map.of(first(p), Fraction.ONE)));
            List<String> open = new ArrayList<>(List.of(first(p)));
            while (!open.isEmpty()) {
                String s = open.remove(open.size() - 1);
                if (ends(s) || graph.containsKey(s)) continue;
                graph.put(s, onward(room, s));
                open.addAll(graph.get(s).keySet());
            }
            for (String s : new ArrayList<>(graph.keySet())) {
                if (!s.equals("start")) takeOut(graph, s);
            }
            return graph.get("start");
        }

        private static void takeOut(Map<String, Map<String, Fraction>> graph, String s) {
            Map<String, Fraction> out = graph.remove(s);
            Fraction self = out.remove(s);
            Fraction rest = Fraction.ONE.minus(self == null ? Fraction.ZERO : self);
            for (Map<String, Fraction> from : graph.values()) {
                Fraction into = from.remove(s);
                if (into == null || rest.compare(Fraction.ZERO) == 0) continue;
                for (Map.Entry<String, Fraction> e : out.entrySet()) {
                    from.merge(e.getKey(), into.times(e.getValue()).over(rest), Fraction::plus);
                }
            }
        }

        Fraction shareOf(List<String> room, int p, int q) {
            return ends(room, p).getOrDefault("port" + q, Fraction.ZERO);
        }

        int share(int p, int q, int part) {
            if (!port(p) || !port(q) || part < 0 || part > 1) return BAD;
            return shareOf(rows, p, q).part(part);
        }

        Fraction swallowed(int p) { return ends(rows, p).getOrDefault("swallowed", Fraction.ZERO); }

        Fraction caught(int p) {
            Fraction left = Fraction.ONE;
            for (Fraction f : ends(rows, p).values()) {
                left = left.minus(f);
            }
            return left;
        }

        int lost(int p, int what) {
            if (!port(p) || what < 0 || what > 3) return BAD;
            return (what < 2 ? swallowed(p) : caught(p)).part(what & 1);
        }

        int bits(int p, int q) {
            if (!port(p) || !port(q)) return BAD;
            Fraction f = shareOf(rows, p, q);
            return Float.floatToIntBits((float) f.part(0) / (float) f.part(1));
        }

        /** The states at each step, without a memory of earlier steps; more steps than states are of no use. */
        int steps(int p, String wanted, Set<String> seen) {
            Set<String> now = new HashSet<>(Set.of(first(p)));
            int least = NONE;
            for (int step = 1; step <= 81; step++) {
                Set<String> then = new HashSet<>();
                for (String s : now) {
                    seen.add(s);
                    then.addAll(onward(rows, s).keySet());
                }
                if (least == NONE && then.contains(wanted)) least = step;
                then.removeIf(Model::ends);
                now = then;
            }
            return least;
        }

        int lit(int p) {
            if (!port(p)) return BAD;
            Set<String> seen = new HashSet<>();
            steps(p, "", seen);
            int mask = 0;
            for (String s : seen) {
                String[] f = s.split(",");
                mask |= 1 << w() * Integer.parseInt(f[1]) + Integer.parseInt(f[0]);
            }
            return mask;
        }

        int far(int p, int q) {
            if (!port(p) || !port(q)) return BAD;
            return steps(p, "port" + q, new HashSet<>());
        }

        int alike(int p, int q) {
            if (!port(p) || !port(q)) return BAD;
            return swallowed(p).equals(swallowed(q)) && caught(p).equals(caught(q)) ? 1 : 0;
        }

        int best(int p, int q, int what) {
            if (!port(p) || !port(q) || what < 0 || what > 2) return BAD;
            int n = doors().size();
            int bestSet = -1;
            Fraction most = null;
            for (int open = 0; open <= n; open++) {
                for (int set = 0; set < 1 << n; set++) {
                    if (Integer.bitCount(set) != open) continue;
                    StringBuilder s = new StringBuilder(all());
                    for (int d = 0; d < n; d++) {
                        s.setCharAt(doors().get(d), (set & 1 << d) != 0 ? 'o' : 'x');
                    }
                    List<String> room = new ArrayList<>();
                    for (int y = 0; y < h(); y++) {
                        room.add(s.substring(y * w(), (y + 1) * w()));
                    }
                    Fraction f = shareOf(room, p, q);
                    if (most == null || f.compare(most) > 0) {
                        most = f;
                        bestSet = set;
                    }
                }
            }
            return what == 0 ? bestSet : most.part(what - 1);
        }

        int found(int p, int q, int a, int b, int what) {
            if (!port(p) || !port(q) || a < 0 || a > 1000 || b < 1 || b > 1000 || what < 0 || what > 1) return BAD;
            List<Integer> hits = new ArrayList<>();
            for (int cell = 0; cell < w() * h(); cell++) {
                if (all().charAt(cell) != '.') continue;
                if (shareOf(with(cell, '/'), p, q).equals(Fraction.of(a, b))) hits.add(2 * cell);
                if (shareOf(with(cell, '\\'), p, q).equals(Fraction.of(a, b))) hits.add(2 * cell + 1);
            }
            return what == 0 ? hits.size() : hits.isEmpty() ? NONE : hits.get(0);
        }

        int count(int what) {
            int[] n = {w(), h(), many(all(), "fb"), many(all(), "ox"), many(all(), "o"), many(all(), "#"),
                many(all(), "/\\"), 2 * (w() + h()), past.size(), text.length()};
            return what < 0 || what >= n.length ? BAD : n[what];
        }
    }

    private static int wrong = 0;
    private static int asked = 0;
    private static final Map<String, Map<Integer, Integer>> kindsOfAnswer = new TreeMap<>();

    private static void same(int run, String call, Model m, int got, int want) {
        asked++;
        kindsOfAnswer.computeIfAbsent(call.substring(0, call.indexOf('(')), k -> new TreeMap<>())
            .merge(Math.min(1, want), 1, Integer::sum);
        if (got != want && wrong++ < 40) {
            System.out.println("run " + run + ": " + call + " answered " + got + ", due is " + want
                + " in " + m.rows + " text " + m.text);
        }
    }

    /** Mostly 0 to most - 1, now and then an edge or a wild number. */
    private static int number(Random r, int most) {
        int dice = r.nextInt(40);
        if (dice == 0) return -1;
        if (dice == 1) return most;
        if (dice == 2) return r.nextInt();
        if (dice == 3) return r.nextBoolean() ? Integer.MIN_VALUE : Integer.MAX_VALUE;
        return r.nextInt(Math.max(1, most));
    }

    private static String randomText(Random r) {
        String palette = new String[] {"./\\fb#ox", "./\\fb", "/\\/\\fb", "..fbox", "fb/\\.ox"}[r.nextInt(5)];
        int w = 2 + r.nextInt(4);
        int h = 1 + r.nextInt(4);
        int halves = 0;
        int doors = 0;
        StringBuilder s = new StringBuilder();
        for (int y = 0; y < h; y++) {
            s.append('r');
            for (int x = 0; x < w; x++) {
                char c = palette.charAt(r.nextInt(palette.length()));
                boolean half = "fb".indexOf(c) >= 0;
                boolean door = "ox".indexOf(c) >= 0;
                if (r.nextInt(30) != 0 && (half && halves == 5 || door && doors == 4)) {
                    c = "./\\".charAt(r.nextInt(3));
                    half = false;
                    door = false;
                }
                halves += half ? 1 : 0;
                doors += door ? 1 : 0;
                s.append(c);
            }
            s.append(';');
        }
        if (r.nextInt(6) == 0) {
            int at = r.nextInt(s.length());
            switch (r.nextInt(3)) {
                case 0 -> s.deleteCharAt(at);
                case 1 -> s.insert(at, "r;.fbox#/\\ q".charAt(r.nextInt(12)));
                default -> s.setCharAt(at, "r;.fbox#/\\ q".charAt(r.nextInt(12)));
            }
        }
        return s.toString();
    }

    private static void tell(int run, Random r, MirrorShares x, Model m) {
        if (r.nextInt(4) != 0) {
            same(run, "wipe()", m, x.wipe(), m.wipe());
        }
        for (char c : randomText(r).toCharArray()) {
            same(run, "write(" + c + ")", m, x.write(c), m.write(c));
        }
        same(run, "fault()", m, x.fault(), m.fault());
        same(run, "lay()", m, x.lay(), m.lay());
    }

    private static void change(int run, Random r, MirrorShares x, Model m) {
        int a = number(r, m.w() * m.h());
        int d = number(r, m.doors().size());
        int is = number(r, 2);
        int kind = number(r, 8);
        int letter = number(r, 130);
        switch (r.nextInt(9)) {
            case 0, 1, 2 -> same(run, "put(" + a + ", " + kind + ")", m, x.put(a, kind), m.put(a, kind));
            case 3, 4 -> same(run, "door(" + d + ", " + is + ")", m, x.door(d, is), m.door(d, is));
            case 5 -> same(run, "turn()", m, x.turn(), m.turn());
            case 6, 7 -> same(run, "undo()", m, x.undo(), m.undo());
            default -> same(run, "write(" + letter + ")", m, x.write(letter), m.write(letter));
        }
    }

    private static void ask(int run, Random r, MirrorShares x, Model m) {
        int ports = 2 * (m.w() + m.h());
        int p = number(r, ports);
        int q = number(r, ports);
        int two = number(r, 2);
        int three = number(r, 3);
        int four = number(r, 4);
        int ten = number(r, 10);
        int c = number(r, m.w() * m.h());
        int d = number(r, m.doors().size());
        String pq = p + ", " + q;
        switch (r.nextInt(15)) {
            case 0 -> same(run, "cell(" + c + ")", m, x.cell(c), m.cell(c));
            case 1 -> same(run, "doorAt(" + d + ")", m, x.doorAt(d),
                d < 0 || d >= m.doors().size() ? BAD : m.doors().get(d));
            case 2 -> same(run, "port(" + p + ", " + two + ")", m, x.port(p, two), m.portOf(p, two));
            case 3, 4, 5 -> same(run, "share(" + pq + ", " + two + ")", m, x.share(p, q, two), m.share(p, q, two));
            case 6 -> same(run, "lost(" + p + ", " + four + ")", m, x.lost(p, four), m.lost(p, four));
            case 7 -> same(run, "bits(" + pq + ")", m, x.bits(p, q), m.bits(p, q));
            case 8 -> same(run, "lit(" + p + ")", m, x.lit(p), m.lit(p));
            case 9 -> same(run, "far(" + pq + ")", m, x.far(p, q), m.far(p, q));
            case 10 -> same(run, "alike(" + pq + ")", m, x.alike(p, q), m.alike(p, q));
            case 11 -> same(run, "best(" + pq + ", " + three + ")", m, x.best(p, q, three), m.best(p, q, three));
            case 12, 13 -> askFound(run, r, x, m, p, q, two);
            default -> same(run, "count(" + ten + ")", m, x.count(ten), m.count(ten));
        }
    }

    private static void askFound(int run, Random r, MirrorShares x, Model m, int p, int q, int what) {
        int a = number(r, 1001);
        int b = 1 + number(r, 1000);
        if (r.nextInt(4) != 0 && m.port(p) && m.port(q)) {
            Fraction f = m.shareOf(m.with(r.nextInt(m.w() * m.h()), "/\\".charAt(r.nextInt(2))), p, q);
            int times = 1 + r.nextInt(3);
            a = f.part(0) * times;
            b = f.part(1) * times;
        }
        String name = "found(" + p + ", " + q + ", " + a + ", " + b + ", " + what + ")";
        same(run, name, m, x.found(p, q, a, b, what), m.found(p, q, a, b, what));
    }

    public static void main(String[] args) {
        int runs = Integer.getInteger("runs", 1500);
        for (int run = 1; run <= runs; run++) {
            Random r = new Random(run);
            MirrorShares x = new MirrorShares();
            Model m = new Model();
            int calls = 60;
            for (int i = 0; i < calls; i++) {
                int dice = r.nextInt(20);
                if (dice == 0 || i == 0 && run % 4 != 0) {
                    tell(run, r, x, m);
                } else if (dice < 8) {
                    change(run, r, x, m);
                } else {
                    ask(run, r, x, m);
                }
            }
        }
        System.out.println(asked + " answers, " + wrong + " not as the model's");
        System.out.println(kindsOfAnswer);
        if (wrong != 0) {
            System.exit(1);
        }
    }
}
