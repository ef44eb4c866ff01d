import java.util.ArrayList;
import java.util.Arrays;
import java.util.List;
import java.util.Random;

/** All promises: runs of calls by chance, always the same ones, each answer held against the Oracle's. */
public final class OracleTest {
    private static int shown;

    private final Random random;
    private final long seed;
    private RuleShuttle x = new RuleShuttle();
    private Oracle o = new Oracle();
    private final StringBuilder told = new StringBuilder();
    private boolean wrong;

    private record Change(String name, int[] v) {
    }

    private final List<Change> head = new ArrayList<>();
    private final List<Change> tail = new ArrayList<>();
    private final List<Change> fed = new ArrayList<>();
    private int calls;

    // What is known of the grammar that was generated last, to tell trees of it.
    private final List<int[]> syms = new ArrayList<>();
    private final List<int[]> prods = new ArrayList<>();
    private final List<String> prodNames = new ArrayList<>();

    private OracleTest(long seed) {
        this.seed = seed;
        random = new Random(seed);
    }

    public static void main(String[] args) {
        int from = args.length > 0 ? Integer.parseInt(args[0]) : 1;
        int to = args.length > 1 ? Integer.parseInt(args[1]) : 400;
        int bad = 0;
        for (int seed = from; seed <= to; seed++) {
            OracleTest run = new OracleTest(seed);
            run.go();
            if (run.wrong) {
                bad++;
            }
        }
        System.out.println("OracleTest: " + (to - from + 1 - bad) + " of " + (to - from + 1) + " runs as due");
        if (bad > 0) {
            System.exit(1);
        }
    }

    private int call(String name, int... v) {
        int got = Calls.call(x, name, v);
        calls += 2;
        int want = o.call(name, v);
        told.append(name).append(Arrays.toString(v)).append(" -> ").append(want).append('\n');
        boolean tells = !name.equals("feed") && !name.equals("fault");
        int status = tells ? x.status() : o.call("status");
        if (!wrong && (got != want || status != o.call("status"))) {
            wrong = true;
            int from = shown++ < 3 ? Math.max(0, told.length() - 4000) : told.length();
            System.out.println("seed " + seed + "\n" + told.substring(from) + "but answered " + got + " with STATUS " + status
                    + ", not " + want + " with " + o.call("status"));
        }
        keep(name, v);
        if (calls > Check.CALLS_MOST - 10) {
            again();
        }
        return want;
    }

    // What made the object what it is: the latest grammar, the latest tree, and what came behind it.
    private void keep(String name, int[] v) {
        Change change = new Change(name, v.clone());
        if (name.equals("feed")) {
            fed.add(change);
            return;
        }
        int status = o.call("status");
        boolean reads = List.of("grammar", "tree", "graft").contains(name) && (status == 0 || status == 9);
        if (!reads && !name.equals("put") && !name.equals("give")) {
            return;
        }
        if (name.equals("grammar") && status == 0) {
            head.clear();
        }
        if ((name.equals("grammar") || name.equals("tree")) && status == 0) {
            tail.clear();
        }
        List<Change> into = name.equals("grammar") && status == 0 ? head : tail;
        if (reads) {
            into.addAll(fed);
            fed.clear();
        }
        into.add(change);
    }

    // Calls behind the 512th answer what they like: another object takes over, brought to where this one is.
    private void again() {
        x = new RuleShuttle();
        calls = head.size() + tail.size() + fed.size();
        head.forEach(c -> Calls.call(x, c.name, c.v));
        tail.forEach(c -> Calls.call(x, c.name, c.v));
        fed.forEach(c -> Calls.call(x, c.name, c.v));
    }

    private int chance(int n) {
        return random.nextInt(n);
    }

    private void feed(String text) {
        for (int i = 0; i < text.length(); i += 20) {
            call("feed", Check.four(text, i), Check.four(text, i + 4), Check.four(text, i + 8),
                    Check.four(text, i + 12), Check.four(text, i + 16));
        }
    }

    private void go() {
        for (int n = 0; n < 4 && !wrong; n++) {
            String text = grammarText();
            boolean hurt = chance(3) == 0;
            text = hurt ? hurt(text) : text;
            told.append("-- ").append(text).append('\n');
            feed(text);
            call("grammar", chance(40) == 0 ? chance(1100) - 50 : text.length());
            call("fault", 0);
            call("fault", 1);
            call("many", chance(6) - 1);
            if (!hurt) {
                askGrammar();
                for (int t = 0; t < 3 && !wrong; t++) {
                    askTrees();
                }
            }
        }
    }

    private void askGrammar() {
        for (int s = -1; s <= syms.size(); s++) {
            for (int what = -1; what <= 4; what++) {
                call("symbol", s, what);
            }
            call("shades", s);
            for (int a = -1; a <= 8; a++) {
                call("visit", s, a);
            }
            for (int n = 0; n < 20; n++) {
                call("induced", s, chance(10) - 1, chance(10) - 1);
            }
        }
        for (int p = -1; p <= prods.size(); p++) {
            for (int what = -1; what <= 6; what++) {
                call("production", p, what);
            }
            for (int n = 0; n < 60; n++) {
                call("hangs", p, chance(34) - 1, chance(34) - 1, chance(16) == 0 ? chance(5) - 1 : chance(3));
            }
            int steps = call("plan", p, -1);
            for (int i = -2; i <= steps + 1; i++) {
                call("plan", p, i);
            }
        }
        for (int what = -2; what < 6; what++) {
            call("circle", what);
            call("ordered", what);
            call("real", what);
            call("many", what);
        }
    }

    private void askTrees() {
        String text = treeText(chance(Math.max(1, syms.size())), chance(8) == 0 ? 14 : 5, chance(6) == 0 ? 60 : 14);
        text = chance(4) == 0 ? hurt(text) : text;
        told.append("-- ").append(text).append('\n');
        feed(text);
        call("tree", chance(40) == 0 ? chance(1100) - 50 : text.length());
        call("fault", 0);
        call("fault", 1);
        askTree();
        for (int n = 0; n < 12 && !wrong; n++) {
            change();
            askTree();
        }
    }

    private void askTree() {
        call("anew", chance(12) == 0 ? 2 : 0);
        call("anew", 1);
        call("digest");
        call("longest");
        call("run", 0);
        call("run", 1);
        call("run", chance(4) - 1);
        int nodes = call("many", 3);
        call("many", 4);
        for (int n = 0; n < 12; n++) {
            int k = chance(nodes + 2) - 1;
            int a = chance(chance(4) == 0 ? 9 : 4) - (chance(6) == 0 ? 1 : 0);
            call("value", k, a);
            call("span", k, a, chance(20) == 0 ? 2 : chance(2));
            call("knot", k, a, 0);
            call("knot", k, a, chance(6));
            call("knot", k, a, chance(7) - 1);
            call("node", k, chance(11) - 1);
            call("node", k, chance(9));
        }
    }

    private void change() {
        int nodes = call("many", 3);
        int kind = chance(10);
        if (kind < 4) {
            call("put", chance(nodes + 1) - (chance(9) == 0 ? 1 : 0), chance(20) == 0 ? chance(20000) - 5000 : chance(4));
        } else if (kind < 6) {
            call("give", chance(4) - (chance(9) == 0 ? 1 : 0), chance(3) == 0 ? random.nextInt() : chance(4) - 2);
        } else {
            int k = chance(nodes + 1) - (chance(9) == 0 ? 1 : 0);
            int p = call("node", k, 0);
            int s = p >= 0 && p < prods.size() && chance(9) > 0 ? prods.get(p)[0] : chance(Math.max(1, syms.size()));
            String text = treeText(s, chance(6) == 0 ? 13 : 3, chance(6) == 0 ? 30 : 5);
            text = chance(8) == 0 ? hurt(text) : text;
            told.append("-- ").append(text).append('\n');
            feed(text);
            call("graft", k, chance(40) == 0 ? chance(1100) - 50 : text.length());
            call("fault", 0);
            call("fault", 1);
        }
    }

    // ---- texts

    private static String letters(int n) {
        return n < 20 ? String.valueOf((char) ('a' + n)) : letters(n / 20) + letters(n % 20);
    }

    private String grammarText() {
        syms.clear();
        prods.clear();
        prodNames.clear();
        StringBuilder text = new StringBuilder();
        int big = chance(8);
        int wild = chance(4);
        int many = big == 0 ? 8 : wild == 3 ? 1 + chance(2) : 1 + chance(3);
        int few = wild == 3 ? 3 : 0;
        for (int s = 0; s < many; s++) {
            int[] sym = {big == 1 ? 4 : few > 0 ? few + chance(2) : chance(chance(3) == 0 ? 5 : 3),
                big == 1 ? 4 : few > 0 ? few + chance(2) : chance(chance(3) == 0 ? 5 : 3)};
            syms.add(sym);
            text.append("symbol ").append(letters(s)).append(names(" in", 0, sym[0]))
                    .append(names(" out", sym[0], sym[0] + sym[1])).append(";");
        }
        int lines = big == 2 ? 12 : 1 + chance(6);
        boolean leaves = chance(4) > 0;
        for (int p = 0; p < lines; p++) {
            int[] prod = new int[1 + (chance(3) == 0 ? 0 : chance(4))];
            for (int i = 0; i < prod.length; i++) {
                prod[i] = chance(many);
            }
            // Most grammars have for each symbol a tree of one node.
            if (leaves && p < many) {
                prod = new int[] {p};
            }
            prods.add(prod);
            prodNames.add(letters(p + (chance(2) == 0 ? 0 : 40)));
            text.append("prod ").append(prodNames.get(p)).append(':');
            for (int s : prod) {
                text.append(letters(s)).append(' ');
            }
            text.append(";");
        }
        rules(text, wild, 1 + chance(wild == 3 ? 2 : 4));
        return text.toString();
    }

    private static String names(String keep, int from, int to) {
        StringBuilder text = new StringBuilder(from < to ? keep : "");
        for (int a = from; a < to; a++) {
            text.append(' ').append(letters(a));
        }
        return text.toString();
    }

    private void rules(StringBuilder text, int wild, int most) {
        int dense = wild == 3 ? 10 : 1 + chance(10);
        for (int p = 0; p < prods.size(); p++) {
            int[] prod = prods.get(p);
            for (int occ = 0; occ < 8 * prod.length; occ++) {
                int[] sym = syms.get(prod[occ / 8]);
                boolean tellable = occ % 8 < sym[0] + sym[1] && occ % 8 < sym[0] == occ >= 8;
                if (tellable && chance(10) < dense) {
                    String rule = "rule " + prodNames.get(p) + " " + occName(occ) + "=" + e(prod, occ, wild, most, 0)
                            + ";";
                    if (text.length() + rule.length() <= 980) {
                        text.append(rule);
                    }
                }
            }
        }
    }

    private static String occName(int occ) {
        return occ / 8 + "." + letters(occ % 8);
    }

    private String e(int[] prod, int occ, int wild, int most, int depth) {
        StringBuilder text = new StringBuilder(part(prod, occ, wild, most, depth));
        for (int n = chance(most); n > 0; n--) {
            String op = new String[] {"+", "-", "*", "|", "&", "<", " max ", " min "}[chance(8)];
            text.append(op).append(part(prod, occ, wild, most, depth));
        }
        return text.toString();
    }

    private String part(int[] prod, int occ, int wild, int most, int depth) {
        int kind = chance(wild == 3 ? 40 : 14);
        if (kind == 0 && depth < 6) {
            return "(" + e(prod, occ, wild, most - 1 > 0 ? most - 1 : 1, depth + 1) + ")";
        }
        if (kind == 1 && depth < 4) {
            return "if(" + e(prod, occ, wild, 1, depth + 1) + "," + e(prod, occ, wild, 1, depth + 1) + ","
                    + e(prod, occ, wild, 1, depth + 1) + ")";
        }
        if (kind < 4) {
            return "num";
        }
        if (kind < 6) {
            return String.valueOf(chance(chance(4) == 0 ? 10000 : 10));
        }
        for (int n = 0; n < 20; n++) {
            int on = chance(8 * prod.length);
            int[] sym = syms.get(prod[on / 8]);
            boolean there = on % 8 < sym[0] + sym[1];
            boolean in = on % 8 < sym[0];
            // Without wild, what asks only what comes from outside is seldom in a circle.
            boolean sane = in == on < 8 && (wild == 1 || occ < 8 || on / 8 < occ / 8);
            // By phases: an order in which all can come, with many visits.
            boolean ahead = in == on < 8
                    && phase(prod, on) * 2 + (on < 8 ? 0 : 1) <= phase(prod, occ) * 2 + (occ < 8 ? 1 : 0)
                    && phase(prod, on) + 1 >= phase(prod, occ);
            if (there && (wild == 2 || (wild == 3 ? ahead : sane))) {
                return occName(on);
            }
        }
        return "1";
    }

    private int phase(int[] prod, int occ) {
        int[] sym = syms.get(prod[occ / 8]);
        return occ % 8 < sym[0] ? occ % 8 : occ % 8 - sym[0];
    }

    private String treeText(int s, int deep, int nodes) {
        return node(s, deep, new int[] {nodes});
    }

    private String node(int s, int deep, int[] left) {
        left[0]--;
        List<Integer> fit = new ArrayList<>();
        for (int p = 0; p < prods.size(); p++) {
            if (prods.get(p)[0] == s) {
                fit.add(p);
                if (prods.get(p).length == 1 == (deep <= 0 || left[0] <= 0) || chance(2) == 0) {
                    fit.add(p);
                    fit.add(p);
                    fit.add(p);
                }
            }
        }
        if (deep < -3 || left[0] < -60 || fit.isEmpty()) {
            return prods.isEmpty() ? "x" : prodNames.get(chance(prods.size()));
        }
        int p = fit.get(chance(fit.size()));
        StringBuilder text = new StringBuilder(prodNames.get(p));
        if (chance(3) == 0) {
            text.append(' ').append(chance(5));
        }
        for (int c = 1; c < prods.get(p).length; c++) {
            text.append(c == 1 ? "(" : ",").append(node(prods.get(p)[c], deep - 1, left));
        }
        if (prods.get(p).length > 1) {
            text.append(')');
        }
        return text.length() > 900 ? text.substring(0, 900) : text.toString();
    }

    private String hurt(String text) {
        StringBuilder b = new StringBuilder(text);
        for (int n = 1 + chance(2); n > 0 && b.length() > 0; n--) {
            int at = chance(b.length());
            switch (chance(6)) {
                case 0 -> b.setLength(at);
                case 1 -> b.deleteCharAt(at);
                case 2 -> b.setCharAt(at, ";:,.=+-*|&<()x1 \n{\t9a".charAt(chance(21)));
                case 3 -> b.insert(at, ";:,.=+-*|&<()x1 \n{\t9a".charAt(chance(21)));
                case 4 -> {
                    int end = Math.min(b.length(), at + 1 + chance(30));
                    b.insert(at, b.substring(at, end));
                }
                default -> b.insert(at, new String[] {" in ", " out ", " max ", " if(", " num ", "symbol ", " 12345 ",
                    "abcdefghi", "((((((((", "1+1+1+1+1+1+1+1+1+1+1+1+1+1+1+1+1+1+1+1+1+1+1+1+1+"}[chance(10)]);
            }
        }
        return b.length() > 1000 ? b.substring(0, 1000) : b.toString();
    }
}
