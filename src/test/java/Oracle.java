import java.util.ArrayList;
import java.util.Arrays;
import java.util.BitSet;
import java.util.HashMap;
import java.util.LinkedHashMap;
import java.util.LinkedHashSet;
import java.util.List;
import java.util.Map;
import java.util.Set;
import java.util.TreeMap;
import java.util.TreeSet;

/**
 * The document's words taken one by one, with the Java library and without any care for speed: what the class is
 * held against. Values are reckoned anew only where the document says so, plans are gone through step by step.
 */
final class Oracle {
    private static final Set<String> KEPT =
            Set.of("symbol", "prod", "rule", "in", "out", "num", "max", "min", "if");

    private static final class Fault extends RuntimeException {
        private static final long serialVersionUID = 1;
        final int kind;
        final int place;

        Fault(int kind, int place) {
            super(null, null, false, false);
            this.kind = kind;
            this.place = place;
        }
    }

    private static final class Refused extends RuntimeException {
        private static final long serialVersionUID = 1;
        final int why;

        Refused(int why) {
            super(null, null, false, false);
            this.why = why;
        }
    }

    // ---- tokens

    private record Token(String text, int place) {
        boolean word() {
            return !text.isEmpty() && Character.isLetter(text.charAt(0));
        }

        boolean name() {
            return word() && !KEPT.contains(text);
        }

        boolean number() {
            return !text.isEmpty() && Character.isDigit(text.charAt(0));
        }

        boolean is(String s) {
            return text.equals(s);
        }
    }

    private static final class Text {
        final String s;
        int at;

        Text(String s) {
            this.s = s;
        }

        Token peek() {
            int i = at;
            while (i < s.length() && (s.charAt(i) == ' ' || s.charAt(i) == '\n')) {
                i++;
            }
            if (i == s.length()) {
                return new Token("", i);
            }
            int j = i;
            char c = s.charAt(i);
            if (c >= 'a' && c <= 'z') {
                while (j < s.length() && s.charAt(j) >= 'a' && s.charAt(j) <= 'z') {
                    j++;
                }
                if (j - i > 8) {
                    throw new Fault(1, i);
                }
            } else if (c >= '0' && c <= '9') {
                while (j < s.length() && s.charAt(j) >= '0' && s.charAt(j) <= '9') {
                    j++;
                }
                if (j - i > 4) {
                    throw new Fault(1, i);
                }
            } else if (";:,.=+-*|&<()".indexOf(c) >= 0) {
                j++;
            } else {
                throw new Fault(1, i);
            }
            return new Token(s.substring(i, j), i);
        }

        Token take() {
            Token t = peek();
            at = t.place + t.text.length();
            return t;
        }

        Token sign(String sign) {
            Token t = peek();
            if (!t.is(sign)) {
                throw new Fault(2, t.place);
            }
            return take();
        }

        Token name() {
            Token t = peek();
            if (!t.name()) {
                throw new Fault(2, t.place);
            }
            return t;
        }

        boolean pointBehindNumber() {
            int before = at;
            take();
            boolean point;
            try {
                point = peek().is(".");
            } catch (Fault f) {
                point = false;
            }
            at = before;
            return point;
        }
    }

    // ---- grammars

    private static final class Sym {
        String name;
        int number;
        final List<String> ins = new ArrayList<>();
        final List<String> outs = new ArrayList<>();

        int all() {
            return ins.size() + outs.size();
        }

        int find(String name) {
            return ins.contains(name) ? ins.indexOf(name) : outs.contains(name) ? ins.size() + outs.indexOf(name) : -1;
        }
    }

    private interface Expr {
        int reckon(Node at);

        void asked(Set<Integer> occs);

        boolean num();
    }

    private static final class Prod {
        String name;
        int number;
        final List<Sym> sides = new ArrayList<>();
        final Map<Integer, Expr> rules = new TreeMap<>();
        private final Map<Integer, Set<Integer>> asked = new HashMap<>();
        boolean[][] closed;
        boolean[][] wide;
        List<Integer> plan;

        boolean hasOcc(int occ) {
            return occ >= 0 && occ / 8 < sides.size() && occ % 8 < sides.get(occ / 8).all();
        }

        boolean isIn(int occ) {
            return occ % 8 < sides.get(occ / 8).ins.size();
        }

        boolean tellable(int occ) {
            return hasOcc(occ) && (occ < 8) != isIn(occ);
        }

        boolean asks(int occ, int on) {
            return rules.containsKey(occ) && askedBy(occ).contains(on);
        }

        Set<Integer> askedBy(int occ) {
            return asked.computeIfAbsent(occ, this::collect);
        }

        private Set<Integer> collect(int occ) {
            Set<Integer> occs = new TreeSet<>();
            rules.get(occ).asked(occs);
            return occs;
        }
    }

    private static final class Gram {
        final List<Sym> syms = new ArrayList<>();
        final List<Prod> prods = new ArrayList<>();
        boolean[][][] induced;
        int[] visits;
        int[][] visit;
        int block = -1;
        // Sought once for a grammar: many calls ask them, and they are dear.
        Rounds rounds;

        Sym sym(String name) {
            return syms.stream().filter(s -> s.name.equals(name)).findFirst().orElse(null);
        }

        Prod prod(String name) {
            return prods.stream().filter(p -> p.name.equals(name)).findFirst().orElse(null);
        }
    }

    private static Gram readGrammar(String s) {
        Text t = new Text(s);
        Gram g = new Gram();
        do {
            Token first = t.take();
            if (first.is("symbol")) {
                readSymbol(g, t, first);
            } else if (first.is("prod")) {
                readProd(g, t, first);
            } else if (first.is("rule")) {
                readRule(g, t);
            } else {
                throw new Fault(2, first.place);
            }
            t.sign(";");
        } while (!t.peek().is(""));
        return g;
    }

    private static void readSymbol(Gram g, Text t, Token first) {
        if (g.syms.size() == 8) {
            throw new Fault(6, first.place);
        }
        Token name = t.name();
        if (g.sym(name.text) != null) {
            throw new Fault(4, name.place);
        }
        Sym s = new Sym();
        s.name = name.text;
        s.number = g.syms.size();
        g.syms.add(s);
        t.take();
        if (t.peek().is("in")) {
            readAttributes(s, s.ins, t);
        }
        if (t.peek().is("out")) {
            readAttributes(s, s.outs, t);
        }
    }

    private static void readAttributes(Sym s, List<String> into, Text t) {
        t.take();
        do {
            Token a = t.name();
            if (s.ins.contains(a.text) || s.outs.contains(a.text)) {
                throw new Fault(4, a.place);
            }
            if (into.size() == 4) {
                throw new Fault(6, a.place);
            }
            into.add(a.text);
            t.take();
        } while (t.peek().name());
    }

    private static void readProd(Gram g, Text t, Token first) {
        if (g.prods.size() == 12) {
            throw new Fault(6, first.place);
        }
        Token name = t.name();
        if (g.prod(name.text) != null) {
            throw new Fault(4, name.place);
        }
        Prod p = new Prod();
        p.name = name.text;
        p.number = g.prods.size();
        g.prods.add(p);
        t.take();
        t.sign(":");
        do {
            Token sym = t.name();
            if (g.sym(sym.text) == null) {
                throw new Fault(3, sym.place);
            }
            if (p.sides.size() == 4) {
                throw new Fault(6, sym.place);
            }
            p.sides.add(g.sym(sym.text));
            t.take();
        } while (t.peek().name());
    }

    private static void readRule(Gram g, Text t) {
        Token name = t.name();
        Prod p = g.prod(name.text);
        if (p == null) {
            throw new Fault(3, name.place);
        }
        t.take();
        int[] place = new int[1];
        int occ = readOcc(p, t, place);
        if (!p.tellable(occ) || p.rules.containsKey(occ)) {
            throw new Fault(5, place[0]);
        }
        t.sign("=");
        p.rules.put(occ, readE(p, t, 0, new int[1]));
    }

    private static int readOcc(Prod p, Text t, int[] place) {
        Token number = t.peek();
        if (!number.number()) {
            throw new Fault(2, number.place);
        }
        int position = Integer.parseInt(number.text);
        if (position >= p.sides.size()) {
            throw new Fault(3, number.place);
        }
        t.take();
        t.sign(".");
        Token name = t.name();
        int a = p.sides.get(position).find(name.text);
        if (a < 0) {
            throw new Fault(3, name.place);
        }
        place[0] = name.place;
        t.take();
        return 8 * position + a;
    }

    private static Expr readE(Prod p, Text t, int depth, int[] parts) {
        Expr left = readPart(p, t, depth, parts);
        while (Set.of("+", "-", "*", "|", "&", "<", "max", "min").contains(t.peek().text)) {
            left = join(t.take().text, left, readPart(p, t, depth, parts));
        }
        return left;
    }

    private static void bracket(Text t, int depth) {
        Token b = t.peek();
        if (!b.is("(")) {
            throw new Fault(2, b.place);
        }
        if (depth == 6) {
            throw new Fault(6, b.place);
        }
        t.take();
    }

    private static Expr readPart(Prod p, Text t, int depth, int[] parts) {
        Token first = t.peek();
        if (first.is("(")) {
            bracket(t, depth);
            Expr e = readE(p, t, depth + 1, parts);
            t.sign(")");
            return e;
        }
        if (first.is("if")) {
            t.take();
            bracket(t, depth);
            Expr a = readE(p, t, depth + 1, parts);
            t.sign(",");
            Expr b = readE(p, t, depth + 1, parts);
            t.sign(",");
            Expr c = readE(p, t, depth + 1, parts);
            t.sign(")");
            return choose(a, b, c);
        }
        if (!first.is("num") && !first.number()) {
            throw new Fault(2, first.place);
        }
        boolean occ = first.number() && t.pointBehindNumber();
        if (occ && Integer.parseInt(first.text) >= p.sides.size()) {
            throw new Fault(3, first.place);
        }
        if (++parts[0] > 24) {
            throw new Fault(6, first.place);
        }
        if (occ) {
            return ask(readOcc(p, t, new int[1]));
        }
        t.take();
        return first.is("num") ? own() : constant(Integer.parseInt(first.text));
    }

    private static Expr constant(int n) {
        return new Expr() {
            public int reckon(Node at) {
                return n;
            }

            public void asked(Set<Integer> occs) {
            }

            public boolean num() {
                return false;
            }
        };
    }

    private static Expr own() {
        return new Expr() {
            public int reckon(Node at) {
                return at.own;
            }

            public void asked(Set<Integer> occs) {
            }

            public boolean num() {
                return true;
            }
        };
    }

    private static Expr ask(int occ) {
        return new Expr() {
            public int reckon(Node at) {
                Inst i = at.there(occ);
                return i.value;
            }

            public void asked(Set<Integer> occs) {
                occs.add(occ);
            }

            public boolean num() {
                return false;
            }
        };
    }

    private static Expr choose(Expr a, Expr b, Expr c) {
        return new Expr() {
            public int reckon(Node at) {
                return a.reckon(at) != 0 ? b.reckon(at) : c.reckon(at);
            }

            public void asked(Set<Integer> occs) {
                a.asked(occs);
                b.asked(occs);
                c.asked(occs);
            }

            public boolean num() {
                return a.num() || b.num() || c.num();
            }
        };
    }

    private static Expr join(String op, Expr a, Expr b) {
        return new Expr() {
            public int reckon(Node at) {
                int x = a.reckon(at);
                int y = b.reckon(at);
                return switch (op) {
                    case "+" -> x + y;
                    case "-" -> x - y;
                    case "*" -> x * y;
                    case "|" -> x | y;
                    case "&" -> x & y;
                    case "<" -> x < y ? 1 : 0;
                    case "max" -> x > y ? x : y;
                    default -> x < y ? x : y;
                };
            }

            public void asked(Set<Integer> occs) {
                a.asked(occs);
                b.asked(occs);
            }

            public boolean num() {
                return a.num() || b.num();
            }
        };
    }

    // ---- what hangs on what

    private static boolean[][] close(boolean[][] from) {
        int n = from.length;
        boolean[][] r = new boolean[n][];
        for (int i = 0; i < n; i++) {
            r[i] = new boolean[n];
            // A walk from each: what it meets, one step at least.
            List<Integer> open = new ArrayList<>(List.of(i));
            while (!open.isEmpty()) {
                int x = open.remove(open.size() - 1);
                for (int y = 0; y < n; y++) {
                    if (from[x][y] && !r[i][y]) {
                        r[i][y] = true;
                        open.add(y);
                    }
                }
            }
        }
        return r;
    }

    private static boolean[][] direct(Gram g, Prod p) {
        boolean[][] r = new boolean[32][32];
        for (int x = 0; x < 32; x++) {
            for (int y = 0; y < 32; y++) {
                if (p.hasOcc(x) && p.hasOcc(y)) {
                    r[x][y] = p.asks(x, y)
                            || x / 8 == y / 8 && g.induced[p.sides.get(x / 8).number][x % 8][y % 8];
                }
            }
        }
        return r;
    }

    private static void analyse(Gram g) {
        g.induced = new boolean[8][8][8];
        boolean more = true;
        while (more) {
            more = false;
            for (Prod p : g.prods) {
                p.closed = close(direct(g, p));
                for (int x = 0; x < 32; x++) {
                    for (int y = x / 8 * 8; y < x / 8 * 8 + 8; y++) {
                        if (p.closed[x][y] && !g.induced[p.sides.get(x / 8).number][x % 8][y % 8]) {
                            g.induced[p.sides.get(x / 8).number][x % 8][y % 8] = true;
                            more = true;
                        }
                    }
                }
            }
        }
        g.visits = new int[8];
        g.visit = new int[8][8];
        for (Sym s : g.syms) {
            order(g, s);
        }
        for (Prod p : g.prods) {
            widen(g, p);
            if (g.block < 0 && round(p.wide) >= 0) {
                g.block = p.number;
            }
        }
        if (g.block < 0) {
            for (Prod p : g.prods) {
                plan(g, p);
            }
        }
    }

    private static int round(boolean[][] r) {
        for (int x = 0; x < r.length; x++) {
            if (r[x][x]) {
                return x;
            }
        }
        return -1;
    }

    private static void order(Gram g, Sym s) {
        boolean[][] hang = g.induced[s.number];
        if (round(hang) >= 0) {
            return;
        }
        Set<Integer> left = new TreeSet<>();
        for (int a = 0; a < s.all(); a++) {
            left.add(a);
        }
        List<Set<Integer>> sets = new ArrayList<>();
        boolean out = true;
        while (!left.isEmpty()) {
            Set<Integer> set = new TreeSet<>();
            boolean more = true;
            while (more) {
                more = false;
                for (int a : new ArrayList<>(left)) {
                    boolean awaited = false;
                    for (int b : left) {
                        awaited |= hang[b][a];
                    }
                    if (a >= s.ins.size() == out && !awaited) {
                        set.add(a);
                        left.remove(a);
                        more = true;
                    }
                }
            }
            sets.add(0, set);
            out = !out;
        }
        // From the first set on: an in set begins a visit, an out set is of the one that is open, or alone.
        int visit = 0;
        boolean in = sets.size() % 2 == 0;
        boolean open = false;
        for (Set<Integer> set : sets) {
            if (in || !open) {
                visit++;
            }
            for (int a : set) {
                g.visit[s.number][a] = visit;
            }
            open = in;
            in = !in;
        }
        g.visits[s.number] = s.all() == 0 ? 1 : visit;
    }

    private static void widen(Gram g, Prod p) {
        boolean[][] r = direct(g, p);
        for (int x = 0; x < 32; x++) {
            for (int y = x / 8 * 8; y < x / 8 * 8 + 8; y++) {
                if (!p.hasOcc(x) || !p.hasOcc(y) || g.visits[p.sides.get(x / 8).number] == 0) {
                    continue;
                }
                int[] visit = g.visit[p.sides.get(x / 8).number];
                boolean later = visit[x % 8] > visit[y % 8];
                boolean same = visit[x % 8] == visit[y % 8];
                r[x][y] |= later || same && !p.isIn(x) && p.isIn(y);
            }
        }
        p.wide = close(r);
    }

    private static void plan(Gram g, Prod p) {
        p.plan = new ArrayList<>();
        Set<Integer> known = new TreeSet<>();
        int left = p.sides.get(0).number;
        int visit = 1;
        int[] done = new int[4];
        while (true) {
            Set<Integer> outs = new TreeSet<>();
            for (int a = 0; a < p.sides.get(0).all(); a++) {
                if (p.isIn(a) && g.visit[left][a] <= visit) {
                    known.add(a);
                }
                if (!p.isIn(a) && g.visit[left][a] == visit) {
                    outs.add(a);
                }
            }
            if (visit < g.visits[left] && known.containsAll(outs)) {
                p.plan.add(1000 + visit);
                visit++;
                continue;
            }
            int ready = -1;
            for (int x = 31; x >= 0; x--) {
                Set<Integer> asked = new TreeSet<>();
                if (p.rules.containsKey(x)) {
                    p.rules.get(x).asked(asked);
                }
                if (p.tellable(x) && !known.contains(x) && known.containsAll(asked)) {
                    ready = x;
                }
            }
            if (ready >= 0) {
                p.plan.add(100 + ready);
                known.add(ready);
                continue;
            }
            int child = 0;
            for (int c = p.sides.size() - 1; c > 0; c--) {
                if (done[c] < g.visits[p.sides.get(c).number]
                        && known.containsAll(during(g, p, c, done[c] + 1, true))) {
                    child = c;
                }
            }
            if (child == 0) {
                p.plan.add(1000 + g.visits[left]);
                return;
            }
            done[child]++;
            p.plan.add(10 * child + done[child]);
            known.addAll(during(g, p, child, done[child], false));
        }
    }

    private static Set<Integer> during(Gram g, Prod p, int position, int visit, boolean in) {
        Set<Integer> set = new TreeSet<>();
        Sym s = p.sides.get(position);
        for (int a = 0; a < s.all(); a++) {
            if (p.isIn(8 * position + a) == in && g.visit[s.number][a] == visit) {
                set.add(8 * position + a);
            }
        }
        return set;
    }

    /** The shortest circle, the first of these: all walks of so many steps, in their order. */
    private static List<Integer> circle(Gram g) {
        for (Prod p : g.prods) {
            int start = round(p.closed);
            if (start < 0) {
                continue;
            }
            boolean[][] r = direct(g, p);
            for (int length = 1;; length++) {
                boolean[][] can = new boolean[length + 1][32];
                can[0][start] = true;
                for (int n = 1; n <= length; n++) {
                    for (int x = 0; x < 32; x++) {
                        for (int y = 0; y < 32; y++) {
                            can[n][x] |= r[x][y] && can[n - 1][y];
                        }
                    }
                }
                if (!can[length][start]) {
                    continue;
                }
                List<Integer> found = new ArrayList<>(List.of(p.number, start));
                int at = start;
                for (int n = length - 1; n > 0; n--) {
                    int next = 0;
                    while (!r[at][next] || !can[n][next]) {
                        next++;
                    }
                    found.add(next);
                    at = next;
                }
                return found;
            }
        }
        return List.of();
    }

    // ---- shades

    private static final class Rounds {
        int circleRound;
        int overRound;
        int rounds;
        final List<Integer> totals = new ArrayList<>(List.of(0));
        Map<Integer, Set<BitSet>> shades = new HashMap<>();
    }

    private static Rounds rounds(Gram g) {
        if (g.rounds == null) {
            g.rounds = seekRounds(g);
        }
        return g.rounds;
    }

    private static Rounds seekRounds(Gram g) {
        Rounds r = new Rounds();
        for (Sym s : g.syms) {
            r.shades.put(s.number, new LinkedHashSet<>());
        }
        boolean more = true;
        while (more && r.overRound == 0) {
            r.rounds++;
            Map<Integer, Set<BitSet>> next = new HashMap<>();
            r.shades.forEach((s, set) -> next.put(s, new LinkedHashSet<>(set)));
            for (Prod p : g.prods) {
                if (p.sides.size() == 1 == (r.rounds == 1)) {
                    castAll(r, p, new ArrayList<>(), next);
                } else if (p.sides.size() == 1) {
                    castAll(r, p, new ArrayList<>(), next);
                }
            }
            int total = next.values().stream().mapToInt(Set::size).sum();
            more = total > r.totals.get(r.totals.size() - 1);
            r.totals.add(total);
            r.shades = next;
            if (next.values().stream().anyMatch(set -> set.size() > 12)) {
                r.overRound = r.rounds;
            }
        }
        return r;
    }

    private static void castAll(Rounds r, Prod p, List<BitSet> chosen, Map<Integer, Set<BitSet>> next) {
        if (chosen.size() + 1 < p.sides.size()) {
            for (BitSet shade : r.shades.get(p.sides.get(chosen.size() + 1).number)) {
                List<BitSet> longer = new ArrayList<>(chosen);
                longer.add(shade);
                castAll(r, p, longer, next);
            }
            return;
        }
        boolean[][] d = new boolean[32][32];
        for (int x : p.rules.keySet()) {
            for (int y : p.askedBy(x)) {
                d[x][y] = true;
            }
        }
        for (int c = 1; c < p.sides.size(); c++) {
            BitSet shade = chosen.get(c - 1);
            for (int b = shade.nextSetBit(0); b >= 0; b = shade.nextSetBit(b + 1)) {
                d[8 * c + b / 8][8 * c + b % 8] = true;
            }
        }
        boolean[][] closed = close(d);
        if (round(closed) >= 0 && r.circleRound == 0) {
            r.circleRound = r.rounds;
        }
        BitSet shade = new BitSet();
        for (int o = 0; o < 8; o++) {
            for (int i = 0; i < 8; i++) {
                if (p.hasOcc(o) && !p.isIn(o) && p.hasOcc(i) && p.isIn(i) && closed[o][i]) {
                    shade.set(8 * o + i);
                }
            }
        }
        next.get(p.sides.get(0).number).add(shade);
    }

    // ---- trees

    private static final class Inst {
        Node node;
        int a;
        int value;
        int group;
    }

    private static final class Node {
        Prod prod;
        int own;
        Node parent;
        int place;
        int number;
        int deep;
        boolean fresh;
        final List<Node> kids = new ArrayList<>();
        final List<Inst> insts = new ArrayList<>();

        Inst there(int occ) {
            return (occ < 8 ? this : kids.get(occ / 8 - 1)).insts.get(occ % 8);
        }

        int size() {
            return 1 + kids.stream().mapToInt(Node::size).sum();
        }
    }

    private static final class Knot {
        final List<Inst> insts = new ArrayList<>();
        boolean tied;
        int turns;
        boolean unsettled;
    }

    private static final class Forest {
        Node root;
        int[] given = new int[4];
        List<Node> nodes = new ArrayList<>();
        List<Inst> insts = new ArrayList<>();
        List<Knot> knots = new ArrayList<>();
        int reckoned = -1;
        int changed = -1;
    }

    private static Node readTree(Gram g, String s, Sym due, int others, int deep) {
        Text t = new Text(s);
        Node root = readNode(g, t, null, 0, due, new int[] {others}, deep);
        if (!t.peek().is("")) {
            throw new Fault(2, t.peek().place);
        }
        return root;
    }

    private static Node readNode(Gram g, Text t, Node parent, int place, Sym due, int[] count, int deep) {
        Token name = t.name();
        Node k = new Node();
        k.prod = g.prod(name.text);
        if (k.prod == null) {
            throw new Fault(3, name.place);
        }
        if (++count[0] > 40 || deep >= 12) {
            throw new Fault(6, name.place);
        }
        if (due != null && k.prod.sides.get(0) != due) {
            throw new Fault(7, name.place);
        }
        t.take();
        k.parent = parent;
        k.place = place;
        if (t.peek().number()) {
            k.own = Integer.parseInt(t.take().text);
        }
        for (int a = 0; a < k.prod.sides.get(0).all(); a++) {
            Inst i = new Inst();
            i.node = k;
            i.a = a;
            k.insts.add(i);
        }
        int kids = k.prod.sides.size() - 1;
        for (int c = 1; c <= kids; c++) {
            t.sign(c == 1 ? "(" : ",");
            k.kids.add(readNode(g, t, k, c, k.prod.sides.get(c), count, deep + 1));
        }
        if (kids > 0) {
            t.sign(")");
        }
        return k;
    }

    private static void number(Forest f) {
        f.nodes = new ArrayList<>();
        f.insts = new ArrayList<>();
        number(f, f.root, 0);
    }

    private static void number(Forest f, Node k, int deep) {
        k.number = f.nodes.size();
        k.deep = deep;
        f.nodes.add(k);
        f.insts.addAll(k.insts);
        for (Node c : k.kids) {
            number(f, c, deep + 1);
        }
    }

    private static boolean isIn(Inst i) {
        return i.a < i.node.prod.sides.get(0).ins.size();
    }

    private static Node teller(Inst i) {
        return isIn(i) ? i.node.parent : i.node;
    }

    private static int occ(Inst i) {
        return isIn(i) ? 8 * i.node.place + i.a : i.a;
    }

    private static Expr rule(Inst i) {
        Node t = teller(i);
        return t == null ? null : t.prod.rules.get(occ(i));
    }

    private static Set<Inst> asked(Inst i) {
        Set<Inst> set = new LinkedHashSet<>();
        if (rule(i) != null) {
            for (int on : teller(i).prod.askedBy(occ(i))) {
                set.add(teller(i).there(on));
            }
        }
        return set;
    }

    /** All that one hangs on, over others in between; itself only if it does. */
    private static Set<Inst> below(Inst i) {
        Set<Inst> set = new LinkedHashSet<>();
        List<Inst> open = new ArrayList<>(List.of(i));
        while (!open.isEmpty()) {
            for (Inst j : asked(open.remove(open.size() - 1))) {
                if (set.add(j)) {
                    open.add(j);
                }
            }
        }
        return set;
    }

    /** Groups of instances, none ahead of what it hangs on. */
    private static List<Knot> knots(Forest f) {
        Map<Inst, Set<Inst>> below = new LinkedHashMap<>();
        for (Inst i : f.insts) {
            below.put(i, below(i));
        }
        List<Knot> found = new ArrayList<>();
        Set<Inst> done = new LinkedHashSet<>();
        while (done.size() < f.insts.size()) {
            for (Inst i : f.insts) {
                if (done.contains(i)) {
                    continue;
                }
                Knot knot = new Knot();
                for (Inst j : f.insts) {
                    if (j == i || below.get(i).contains(j) && below.get(j).contains(i)) {
                        knot.insts.add(j);
                    }
                }
                Set<Inst> ahead = new LinkedHashSet<>(below.get(i));
                ahead.removeAll(knot.insts);
                if (done.containsAll(ahead)) {
                    knot.tied = below.get(i).contains(i);
                    done.addAll(knot.insts);
                    found.add(knot);
                }
            }
        }
        return found;
    }

    private static int byRule(Forest f, Inst i) {
        if (teller(i) == null) {
            return f.given[i.a];
        }
        return rule(i) == null ? 0 : rule(i).reckon(teller(i));
    }

    private static void reckon(Forest f, Knot knot) {
        if (!knot.tied) {
            knot.insts.get(0).value = byRule(f, knot.insts.get(0));
            return;
        }
        knot.insts.forEach(i -> i.value = 0);
        knot.turns = 0;
        knot.unsettled = true;
        while (knot.unsettled && knot.turns < 64) {
            knot.turns++;
            boolean any = false;
            for (Inst i : knot.insts) {
                int was = i.value;
                i.value = byRule(f, i);
                any |= was != i.value;
            }
            knot.unsettled = any;
        }
    }

    /** Reckons only what is to be reckoned anew. */
    private static void anew(Forest f, Set<Inst> marked, Map<Inst, Integer> were) {
        Map<Inst, Knot> before = new HashMap<>();
        for (Knot k : f.knots) {
            k.insts.forEach(i -> before.put(i, k));
        }
        f.knots = knots(f);
        Set<Inst> changed = new LinkedHashSet<>();
        f.reckoned = 0;
        for (Knot knot : f.knots) {
            boolean so = false;
            for (Inst i : knot.insts) {
                so |= marked.contains(i) || asked(i).stream().anyMatch(changed::contains);
            }
            if (!so) {
                Knot old = before.get(knot.insts.get(0));
                knot.turns = old.turns;
                knot.unsettled = old.unsettled;
                continue;
            }
            Map<Inst, Integer> values = new HashMap<>();
            knot.insts.forEach(i -> values.put(i, were.containsKey(i) ? were.get(i) : Integer.valueOf(i.value)));
            reckon(f, knot);
            f.reckoned += knot.insts.size();
            for (Inst i : knot.insts) {
                if (i.node.fresh || i.value != values.get(i)) {
                    changed.add(i);
                }
            }
        }
        f.changed = changed.size();
        f.nodes.forEach(k -> k.fresh = false);
    }

    // ---- runs

    private int visited;
    private int worked;

    private void go(Gram g, Node k, int visit, Map<Node, Integer> at) {
        visited++;
        while (true) {
            int step = k.prod.plan.get(at.merge(k, 1, Integer::sum) - 1);
            if (step >= 1000) {
                if (step != 1000 + visit) {
                    throw new IllegalStateException("a plan that does not fit");
                }
                return;
            }
            if (step >= 100) {
                worked++;
            } else {
                go(g, k.kids.get(step / 10 - 1), step % 10, at);
            }
        }
    }

    // ---- the face

    private final StringBuilder tape = new StringBuilder();
    private Gram gram;
    private Forest forest;
    private int status;
    private int faultKind = -1;
    private int faultPlace = -1;

    int call(String name, int... v) {
        switch (name) {
            case "status":
                return status;
            case "feed":
                return feed(v);
            case "fault":
                return v[0] == 0 ? faultKind : v[0] == 1 ? faultPlace : -1;
            default:
                break;
        }
        try {
            int answer = ask(name, v);
            status = 0;
            return answer;
        } catch (Refused r) {
            status = r.why;
            return -1;
        } catch (Fault f) {
            faultKind = f.kind;
            faultPlace = f.place;
            status = 9;
            return -1;
        }
    }

    private int feed(int[] v) {
        if (tape.length() + 20 > 1000) {
            return -1;
        }
        for (int x : v) {
            for (int shift = 24; shift >= 0; shift -= 8) {
                tape.append((char) (x >>> shift & 255));
            }
        }
        return tape.length();
    }

    private static void need(boolean good, int why) {
        if (!good) {
            throw new Refused(why);
        }
    }

    private static void within(int x, int from, int to) {
        need(x >= from && x <= to, 1);
    }

    private String text(int n) {
        String s = tape.substring(0, n);
        tape.setLength(0);
        return s;
    }

    private int ask(String name, int[] v) {
        return switch (name) {
            case "grammar" -> grammar(v[0]);
            case "many" -> many(v[0]);
            case "symbol" -> symbol(v[0], v[1]);
            case "production" -> production(v[0], v[1]);
            case "hangs" -> hangs(v[0], v[1], v[2], v[3]);
            case "induced" -> induced(v[0], v[1], v[2]);
            case "circle" -> circle(v[0]);
            case "visit" -> visit(v[0], v[1]);
            case "ordered" -> ordered(v[0]);
            case "plan" -> plan(v[0], v[1]);
            case "real" -> real(v[0]);
            case "shades" -> shades(v[0]);
            case "tree" -> tree(v[0]);
            case "node" -> node(v[0], v[1]);
            case "value" -> inst(v[0], v[1]).value;
            case "knot" -> knot(v[0], v[1], v[2]);
            case "span" -> span(v[0], v[1], v[2]);
            case "run" -> run(v[0]);
            case "longest" -> longest();
            case "put" -> put(v[0], v[1]);
            case "give" -> give(v[0], v[1]);
            case "graft" -> graft(v[0], v[1]);
            case "anew" -> anew(v[0]);
            case "digest" -> digest();
            default -> throw new IllegalArgumentException(name);
        };
    }

    private int grammar(int n) {
        within(n, 0, tape.length());
        Gram read = readGrammar(text(n));
        gram = read;
        forest = null;
        faultKind = 0;
        faultPlace = -1;
        analyse(gram);
        return gram.prods.size();
    }

    private int many(int what) {
        within(what, 0, 4);
        need(what != 4 || forest != null, 3);
        return switch (what) {
            case 0 -> gram == null ? 0 : gram.syms.size();
            case 1 -> gram == null ? 0 : gram.prods.size();
            case 2 -> gram == null ? 0 : gram.prods.stream().mapToInt(p -> p.rules.size()).sum();
            case 3 -> forest == null ? 0 : forest.nodes.size();
            default -> (int) forest.knots.stream().filter(k -> k.tied).count();
        };
    }

    private Sym sym(int s) {
        need(gram != null && s >= 0 && s < gram.syms.size(), 4);
        return gram.syms.get(s);
    }

    private Prod prod(int p) {
        need(gram != null && p >= 0 && p < gram.prods.size(), 4);
        return gram.prods.get(p);
    }

    private int symbol(int s, int what) {
        within(what, 0, 3);
        Sym sym = sym(s);
        need(what != 3 || gram.visits[s] > 0, 7);
        return switch (what) {
            case 0 -> sym.ins.size();
            case 1 -> sym.outs.size();
            case 2 -> (int) gram.prods.stream().filter(p -> p.sides.get(0) == sym).count();
            default -> gram.visits[s];
        };
    }

    private int production(int p, int what) {
        within(what, 0, 5);
        Prod prod = prod(p);
        need(what < 2 || what > 4 || what - 1 < prod.sides.size(), 7);
        return switch (what) {
            case 0 -> prod.sides.get(0).number;
            case 1 -> prod.sides.size() - 1;
            case 5 -> prod.rules.size();
            default -> prod.sides.get(what - 1).number;
        };
    }

    private int hangs(int p, int occ, int on, int how) {
        within(how, 0, 2);
        Prod prod = prod(p);
        need(prod.hasOcc(occ) && prod.hasOcc(on), 4);
        need(how != 2 || prod.sides.stream().allMatch(s -> gram.visits[s.number] > 0), 7);
        return (how == 0 ? prod.asks(occ, on) : how == 1 ? prod.closed[occ][on] : prod.wide[occ][on]) ? 1 : 0;
    }

    private int induced(int s, int a, int on) {
        Sym sym = sym(s);
        need(a >= 0 && a < sym.all() && on >= 0 && on < sym.all(), 4);
        return gram.induced[s][a][on] ? 1 : 0;
    }

    private int circle(int what) {
        need(what >= -1, 1);
        need(gram != null, 2);
        List<Integer> found = Oracle.circle(gram);
        need(what < found.size() - 1, 7);
        return found.get(what + 1);
    }

    private int visit(int s, int a) {
        Sym sym = sym(s);
        need(a >= 0 && a < sym.all(), 4);
        need(gram.visits[s] > 0, 7);
        return gram.visit[s][a];
    }

    private int ordered(int what) {
        within(what, 0, 1);
        need(gram != null, 2);
        need(what == 0 || gram.block >= 0, 7);
        return what == 1 ? gram.block : gram.block < 0 ? 1 : 0;
    }

    private int plan(int p, int i) {
        need(i >= -1, 1);
        Prod prod = prod(p);
        need(gram.block < 0, 5);
        need(i < prod.plan.size(), 7);
        return i < 0 ? prod.plan.size() : prod.plan.get(i);
    }

    private int real(int what) {
        within(what, 0, 3);
        need(gram != null, 2);
        Rounds r = rounds(gram);
        int that = r.circleRound > 0 ? r.circleRound : r.rounds;
        need(r.overRound == 0 || r.overRound > that, 6);
        need(what != 1 || r.circleRound > 0, 7);
        return switch (what) {
            case 0 -> r.circleRound > 0 ? 1 : 0;
            case 1 -> r.circleRound;
            case 2 -> that;
            default -> r.totals.get(that);
        };
    }

    private int shades(int s) {
        sym(s);
        Rounds r = rounds(gram);
        need(r.overRound == 0, 6);
        return r.shades.get(s).size();
    }

    private int tree(int n) {
        within(n, 0, tape.length());
        need(gram != null, 2);
        Node root = readTree(gram, text(n), null, 0, 0);
        faultKind = 0;
        faultPlace = -1;
        forest = new Forest();
        forest.root = root;
        number(forest);
        forest.knots = knots(forest);
        for (Knot k : forest.knots) {
            reckon(forest, k);
        }
        return forest.nodes.size();
    }

    private Node nodeAt(int k) {
        need(forest != null, 3);
        need(k >= 0 && k < forest.nodes.size(), 4);
        return forest.nodes.get(k);
    }

    private Inst inst(int k, int a) {
        Node node = nodeAt(k);
        need(a >= 0 && a < node.insts.size(), 4);
        return node.insts.get(a);
    }

    private int node(int k, int what) {
        within(what, 0, 8);
        Node node = nodeAt(k);
        need(what < 4 || what > 6 || what - 4 < node.kids.size(), 7);
        return switch (what) {
            case 0 -> node.prod.number;
            case 1 -> node.own;
            case 2 -> node.parent == null ? -1 : node.parent.number;
            case 3 -> node.kids.size();
            case 7 -> node.size();
            case 8 -> node.deep;
            default -> node.kids.get(what - 4).number;
        };
    }

    private int knot(int k, int a, int what) {
        within(what, 0, 4);
        Inst i = inst(k, a);
        Knot knot = forest.knots.stream().filter(x -> x.insts.contains(i)).findFirst().orElseThrow();
        need(knot.tied, 7);
        return switch (what) {
            case 0 -> knot.insts.size();
            case 1 -> knot.turns;
            case 2 -> knot.unsettled ? 1 : 0;
            case 3 -> knot.insts.get(0).node.number;
            default -> knot.insts.get(0).a;
        };
    }

    private int span(int k, int a, int what) {
        within(what, 0, 1);
        Inst i = inst(k, a);
        Set<Inst> set = new LinkedHashSet<>();
        if (what == 0) {
            set.addAll(below(i));
        } else {
            for (Inst j : forest.insts) {
                if (below(j).contains(i)) {
                    set.add(j);
                }
            }
        }
        set.add(i);
        return set.size();
    }

    private int run(int what) {
        within(what, 0, 1);
        need(forest != null, 3);
        need(gram.block < 0, 5);
        visited = 0;
        worked = 0;
        Map<Node, Integer> at = new HashMap<>();
        for (int visit = 1; visit <= gram.visits[forest.root.prod.sides.get(0).number]; visit++) {
            go(gram, forest.root, visit, at);
        }
        return what == 0 ? visited : worked;
    }

    private int longest() {
        need(forest != null, 3);
        Map<Inst, Integer> length = new HashMap<>();
        int most = 0;
        for (Knot knot : forest.knots) {
            if (!knot.tied) {
                int ahead = 0;
                for (Inst j : asked(knot.insts.get(0))) {
                    ahead = Math.max(ahead, length.getOrDefault(j, 0));
                }
                length.put(knot.insts.get(0), ahead + 1);
                most = Math.max(most, ahead + 1);
            }
        }
        return most;
    }

    private int put(int k, int number) {
        within(number, 0, 9999);
        Node node = nodeAt(k);
        int was = node.own;
        node.own = number;
        Set<Inst> marked = new LinkedHashSet<>();
        for (Inst i : forest.insts) {
            if (was != number && teller(i) == node && rule(i) != null && rule(i).num()) {
                marked.add(i);
            }
        }
        anew(forest, marked, Map.of());
        return was;
    }

    private int give(int a, int value) {
        need(forest != null, 3);
        need(a >= 0 && a < forest.root.prod.sides.get(0).ins.size(), 4);
        int was = forest.given[a];
        forest.given[a] = value;
        anew(forest, was == value ? Set.of() : Set.of(forest.root.insts.get(a)), Map.of());
        return was;
    }

    private int graft(int k, int n) {
        within(n, 0, tape.length());
        Node went = nodeAt(k);
        Node came = readTree(gram, text(n), went.prod.sides.get(0), forest.nodes.size() - went.size(), went.deep);
        faultKind = 0;
        faultPlace = -1;
        List<Node> gone = forest.nodes.subList(k, k + went.size());
        Set<Inst> marked = new LinkedHashSet<>();
        for (Knot knot : forest.knots) {
            if (knot.tied && knot.insts.stream().anyMatch(i -> gone.contains(i.node))) {
                marked.addAll(knot.insts);
            }
        }
        // The ins of the first node are those of the node that went.
        Map<Inst, Integer> were = new HashMap<>();
        for (int a = 0; a < came.insts.size(); a++) {
            Inst old = went.insts.get(a);
            Inst fresh = came.insts.get(a);
            fresh.value = old.value;
            were.put(fresh, old.value);
            if (marked.contains(old) || !isIn(old)) {
                marked.add(fresh);
            }
            for (Knot knot : forest.knots) {
                knot.insts.replaceAll(i -> i == old ? fresh : i);
            }
        }
        came.parent = went.parent;
        came.place = went.place;
        if (went.parent == null) {
            forest.root = came;
        } else {
            went.parent.kids.set(went.place - 1, came);
        }
        for (Node below : came.kids) {
            mark(below, marked);
        }
        number(forest);
        anew(forest, marked, were);
        return forest.nodes.size();
    }

    private static void mark(Node k, Set<Inst> marked) {
        k.fresh = true;
        marked.addAll(k.insts);
        k.kids.forEach(c -> mark(c, marked));
    }

    private int anew(int what) {
        within(what, 0, 1);
        need(forest != null, 3);
        need(forest.reckoned >= 0, 7);
        return what == 0 ? forest.reckoned : forest.changed;
    }

    private int digest() {
        need(forest != null, 3);
        return Arrays.hashCode(forest.insts.stream().mapToInt(i -> i.value).toArray())
                + (17 - 1) * power(forest.insts.size());
    }

    private static int power(int n) {
        int x = 1;
        for (int i = 0; i < n; i++) {
            x *= 31;
        }
        return x;
    }
}
