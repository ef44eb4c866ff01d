/** Promises 17 to 23: a tree's text and faults, nodes, values, knots, spans, runs and the longest row. */
public final class TreeTest {
    private static final String LIST = "symbol s out v;symbol l in d out v n;prod top:s l;prod add:l l;prod end:l;"
            + "prod two:l l l;rule top 0.v=1.v;rule top 1.d=2;rule add 0.v=1.v+num;rule add 1.d=0.d+1;"
            + "rule add 0.n=1.n+1;rule end 0.v=0.d*num;rule end 0.n=1;rule two 0.v=1.v-2.v;rule two 1.d=0.d;"
            + "rule two 2.d=1.n;rule two 0.n=1.n+2.n;";
    // a hangs on b and i over the parent, b on a: i by i more, till no more than num is reached.
    private static final String LOOP = "symbol s in i out o;symbol c in a out b;prod top:s c;prod leaf:c;"
            + "rule top 0.o=1.b+1;rule top 1.a=(1.b+0.i)min num;rule leaf 0.b=0.a;";

    public static void main(String[] args) {
        Check c = new Check("TreeTest");
        faults(c);
        limits(c);
        nodes(c);
        values(c);
        operators(c);
        turns(c);
        knots(c);
        spans(c);
        runs(c);
        longest(c);
        c.end();
    }

    private static void faults(Check c) {
        c.fresh();
        c.refused("n above the tape", c.x.tree(1), 1);
        c.refused("n below 0", c.x.tree(-1), 1);
        c.refused("no grammar", c.tree("top"), 2);
        c.same("the tape stays then", c.x.feed(0, 0, 0, 0, 0), 40);
        c.grammar(LIST);
        c.fresh();
        c.grammar(LIST);
        c.treeFault("", 2, 0);
        c.treeFault("  ", 2, 2);
        c.treeFault("?", 1, 0);
        c.treeFault("end 12345", 1, 4);
        c.treeFault("abcdefghi", 1, 0);
        c.treeFault("rule", 2, 0);
        c.treeFault("(", 2, 0);
        c.treeFault("7", 2, 0);
        c.treeFault("x", 3, 0);
        c.treeFault("top", 2, 3);
        c.treeFault("top 1", 2, 5);
        c.treeFault("top(", 2, 4);
        c.treeFault("top(x)", 3, 4);
        c.treeFault("top()", 2, 4);
        c.treeFault("top(end", 2, 7);
        c.treeFault("top(end 1 2)", 2, 10);
        c.treeFault("top(end) ;", 2, 9);
        c.treeFault("top(end)top", 2, 8);
        c.treeFault("end(end)", 2, 3);
        c.treeFault("end()", 2, 3);
        c.treeFault("add(end,end)", 2, 7);
        c.treeFault("two(end)", 2, 7);
        c.treeFault("two(end,end", 2, 11);
        c.treeFault("two(end,)", 2, 8);
        c.treeFault("two(end,end,end)", 2, 11);
        c.treeFault("add(add(end)", 2, 12);
        c.treeFault("top(top(end))", 7, 4);
        c.treeFault("two(end,top(end))", 7, 8);
        c.treeFault("two(end,!", 1, 8);
        c.due("no tree by now", c.x.many(3), 0);
        c.due("a root that is no start", c.tree(" two\n0003 ( end,add(end 9999) ) "), 4);
        c.same("fault(0)", c.x.fault(0), 0);
        c.same("fault(1)", c.x.fault(1), -1);
        c.due("own number", c.x.node(0, 1), 3);
        c.due("own number", c.x.node(3, 1), 9999);
        c.treeFault("top(end))", 2, 8);
        c.due("the tree stays", c.x.many(3), 4);
        c.feed("end");
        c.due("only the first bytes count", c.x.tree(3), 1);
        c.same("the tape is empty then", c.x.feed(0, 0, 0, 0, 0), 20);
    }

    private static void limits(Check c) {
        c.fresh();
        c.grammar("symbol s;symbol t;prod a:s s;prod e:s;prod c:s s s s;prod o:t;");
        String deep = "a(".repeat(11) + "e" + ")".repeat(11);
        c.due("12 within one another", c.tree(deep), 12);
        c.due("the deepest", c.x.node(11, 8), 11);
        c.treeFault("a(".repeat(12) + "e" + ")".repeat(12), 6, 24);
        c.treeFault("a(".repeat(12) + "o" + ")".repeat(12), 6, 24);
        c.treeFault("a(".repeat(12) + "x" + ")".repeat(12), 3, 24);
        c.treeFault("a(".repeat(12) + ")", 2, 24);
        String four = "c(e,e,e)";
        String thirteen = "c(" + four + "," + four + "," + four + ")";
        String forty = "c(" + thirteen + "," + thirteen + "," + thirteen + ")";
        c.due("40 nodes", c.tree(forty), 40);
        c.due("all of them", c.x.node(0, 7), 40);
        String more = "c(" + thirteen + "," + thirteen + ",c(" + four + "," + four + ",c(e,e,a(e))))";
        c.treeFault(more, 6, more.lastIndexOf('e'));
        c.treeFault(more.substring(0, more.lastIndexOf('e')) + "o", 6, more.lastIndexOf('e'));
        c.treeFault(more.substring(0, more.lastIndexOf('e')) + "x", 3, more.lastIndexOf('e'));
    }

    private static void nodes(Check c) {
        c.fresh();
        c.refused("no tree", c.x.node(0, 0), 3);
        c.refused("what", c.x.node(0, 9), 1);
        c.refused("what below 0", c.x.node(0, -1), 1);
        c.grammar(LIST);
        c.refused("no tree", c.x.node(0, 0), 3);
        // 0 top, 1 two, 2 add, 3 end, 4 end
        c.tree("top 4(two(add 3(end 2),end))");
        int[][] due = {{0, 4, -1, 1, 1, -1, -1, 5, 0}, {3, 0, 0, 2, 2, 4, -1, 4, 1}, {1, 3, 1, 1, 3, -1, -1, 2, 2},
            {2, 2, 2, 0, -1, -1, -1, 1, 3}, {2, 0, 1, 0, -1, -1, -1, 1, 2}};
        for (int k = 0; k < due.length; k++) {
            for (int what = 0; what < 9; what++) {
                if (due[k][what] == -1 && what > 3) {
                    c.refused("node(" + k + ", " + what + ")", c.x.node(k, what), 7);
                } else {
                    c.due("node(" + k + ", " + what + ")", c.x.node(k, what), due[k][what]);
                }
            }
        }
        c.refused("no node", c.x.node(5, 0), 4);
        c.refused("no node below 0", c.x.node(-1, 0), 4);
        c.refused("what", c.x.node(5, 9), 1);
    }

    private static void values(Check c) {
        c.fresh();
        c.refused("no tree", c.x.value(0, 0), 3);
        c.grammar(LIST);
        c.tree("top 4(two(add 3(end 2),end 5))");
        // l: d 0, v 1, n 2
        int[][] due = {{0, 0, 4}, {1, 0, 2}, {2, 0, 2}, {3, 0, 3}, {3, 1, 6}, {3, 2, 1}, {2, 1, 9}, {2, 2, 2}, {4, 0, 2},
            {4, 1, 10}, {4, 2, 1}, {1, 1, -1}, {1, 2, 3}, {0, 0, -1}};
        for (int n = 1; n < due.length; n++) {
            c.due("value(" + due[n][0] + ", " + due[n][1] + ")", c.x.value(due[n][0], due[n][1]), due[n][2]);
        }
        c.refused("no attribute", c.x.value(0, 1), 4);
        c.refused("no attribute", c.x.value(1, 3), 4);
        c.refused("no attribute below 0", c.x.value(1, -1), 4);
        c.refused("no node", c.x.value(5, 0), 4);
        c.refused("no node below 0", c.x.value(-1, 0), 4);
        int digest = 17;
        for (int value : new int[] {-1, 2, -1, 3, 2, 9, 2, 3, 6, 1, 2, 10, 1}) {
            digest = 31 * digest + value;
        }
        c.due("digest()", c.x.digest(), digest);
        c.grammar("symbol s;prod p:s;");
        c.tree("p");
        c.due("digest() of no instances", c.x.digest(), 17);
    }

    private static int by(Check c, String e) {
        c.fresh();
        c.grammar("symbol s in a b out v;prod p:s;rule p 0.v=" + e + ";");
        c.tree("p 9");
        c.x.give(0, 6);
        c.x.give(1, -3);
        return c.x.value(0, 2);
    }

    private static void operators(Check c) {
        c.due("from the left", by(c, "2+3*4-1"), 19);
        c.due("brackets", by(c, "2+(3*4)-1"), 13);
        c.due("minus from the left", by(c, "9-5-1"), 3);
        c.due("or", by(c, "0.a|9"), 15);
        c.due("and", by(c, "0.b&12"), 12);
        c.due("and from the left", by(c, "1|6&3"), 3);
        c.due("less", by(c, "0.b<0.a"), 1);
        c.due("not less", by(c, "0.a<0.a"), 0);
        c.due("less from the left", by(c, "5<4<1"), 1);
        c.due("max", by(c, "0.b max 0.a max 2"), 6);
        c.due("min", by(c, "0.b min 0.a min 2"), -3);
        c.due("num", by(c, "num*num"), 81);
        c.due("if", by(c, "if(0.b,1,2)"), 1);
        c.due("if not", by(c, "if(0.b+3,1,2)"), 2);
        c.due("if in if", by(c, "if(if(0,1,0),if(1,3,4),if(1,5,6))+1"), 6);
        c.due("if in an if's parts", by(c, "7-if(1,2+if(0,1,3),9)*2"), 4);
        c.due("deep", by(c, "1-(2-(3-(4-(5-(6-7)))))"), 1 - (2 - (3 - (4 - (5 - (6 - 7))))));
        c.due("deep by ifs", by(c, "1-if(0,2,3-if(0,4,5-if(0,6,7-if(0,8,9-if(0,1,2-if(0,1,2))))))"),
                1 - (3 - (5 - (7 - (9 - (2 - 2))))));
        c.due("ints wrap", by(c, "9999*9999*9999*9999"), 9999 * 9999 * 9999 * 9999);
        c.due("nothing is told", by(c, "0;symbol t out w;prod q:t"), 0);
        c.due("tree", c.tree("q 3"), 1);
        c.due("without a rule", c.x.value(0, 0), 0);
        c.due("the asked if is asked, though it isn't taken", by(c, "if(1,2,0.a)"), 2);
        c.due("span", c.x.span(0, 2, 0), 2);
    }

    private static void turns(Check c) {
        c.fresh();
        c.grammar(LOOP);
        int[][] due = {{0, 0, 1, 0}, {1, 10, 11, 0}, {1, 63, 64, 0}, {1, 64, 64, 1}, {2, 64, 33, 0}, {1, 9999, 64, 1}};
        int[] values = {0, 10, 63, 64, 64, 64};
        for (int n = 0; n < due.length; n++) {
            c.tree("top " + due[n][1] + "(leaf)");
            c.x.give(0, due[n][0]);
            c.due("knots", c.x.many(4), 1);
            c.due("instances", c.x.knot(1, 0, 0), 2);
            c.due("turns", c.x.knot(1, 1, 1), due[n][2]);
            c.due("unsettled", c.x.knot(1, 0, 2), due[n][3]);
            c.due("value of a", c.x.value(1, 0), values[n]);
            c.due("value of b", c.x.value(1, 1), values[n]);
            c.due("value of o", c.x.value(0, 1), values[n] + 1);
        }
    }

    private static void knots(Check c) {
        c.fresh();
        c.refused("no tree", c.x.knot(0, 0, 0), 3);
        c.refused("what", c.x.knot(0, 0, 5), 1);
        c.refused("what below 0", c.x.knot(0, 0, -1), 1);
        c.grammar(LOOP);
        c.tree("top(leaf)");
        c.refused("in no knot", c.x.knot(0, 1, 0), 7);
        c.refused("no attribute", c.x.knot(0, 2, 0), 4);
        c.refused("no node", c.x.knot(2, 0, 0), 4);
        c.due("first node", c.x.knot(1, 1, 3), 1);
        c.due("first attribute", c.x.knot(1, 1, 4), 0);
        // By nodes, then attributes: 0.c, 0.d are known late, but come first in a turn.
        c.grammar("symbol s in a b out c d;prod p:s s;prod q:s;rule p 0.c=1.d+1 min 3;rule p 1.b=0.c;rule q 0.d=0.b;"
                + "rule q 0.c=0.c+1 min num;");
        c.tree("p(q 2)");
        c.due("two knots", c.x.many(4), 2);
        c.due("three in one", c.x.knot(1, 3, 0), 3);
        c.due("its first node", c.x.knot(1, 3, 3), 0);
        c.due("its first attribute", c.x.knot(1, 3, 4), 2);
        c.due("its turns", c.x.knot(0, 2, 1), 4);
        c.due("one that hangs on itself", c.x.knot(1, 2, 0), 1);
        c.due("its first node", c.x.knot(1, 2, 3), 1);
        c.due("its first attribute", c.x.knot(1, 2, 4), 2);
        c.due("its turns", c.x.knot(1, 2, 1), 3);
        c.due("value", c.x.value(1, 2), 2);
        c.due("value", c.x.value(0, 2), 3);
        c.refused("d of p is in none", c.x.knot(0, 3, 0), 7);
        // One that swings: never settled.
        c.grammar("symbol s out v;prod p:s;rule p 0.v=1-0.v;");
        c.tree("p");
        c.due("turns", c.x.knot(0, 0, 1), 64);
        c.due("unsettled", c.x.knot(0, 0, 2), 1);
        c.due("value as it is", c.x.value(0, 0), 0);
    }

    private static void spans(Check c) {
        c.fresh();
        c.refused("no tree", c.x.span(0, 0, 0), 3);
        c.refused("what", c.x.span(0, 0, 2), 1);
        c.refused("what below 0", c.x.span(0, 0, -1), 1);
        c.grammar(LIST);
        c.tree("top 4(two(add 3(end 2),end 5))");
        c.refused("no attribute", c.x.span(0, 1, 0), 4);
        c.refused("no node", c.x.span(5, 0, 1), 4);
        c.due("need of a value", c.x.span(0, 0, 0), 11);
        c.due("need of d", c.x.span(1, 0, 0), 1);
        c.due("need of the second child's d", c.x.span(4, 0, 0), 3);
        c.due("reach of the root's v", c.x.span(0, 0, 1), 1);
        c.due("reach of the end's n", c.x.span(3, 2, 1), 7);
        c.due("reach of the first d", c.x.span(1, 0, 1), 7);
        c.grammar(LOOP);
        c.tree("top(leaf)");
        c.due("need over a knot", c.x.span(0, 1, 0), 4);
        c.due("need in a knot", c.x.span(1, 1, 0), 3);
        c.due("reach over a knot", c.x.span(0, 0, 1), 4);
        c.due("reach in a knot", c.x.span(1, 0, 1), 3);
    }

    private static void runs(Check c) {
        c.fresh();
        c.refused("no tree", c.x.run(0), 3);
        c.refused("what", c.x.run(2), 1);
        c.refused("what below 0", c.x.run(-1), 1);
        c.grammar("symbol s out v;symbol t in a c out b d;prod top:s t;prod q:t;prod r:t t t;rule top 1.a=1;"
                + "rule top 1.c=1.b;rule top 0.v=1.d;rule q 0.b=0.a;rule q 0.d=0.c;");
        c.refused("no tree", c.x.run(0), 3);
        c.tree("top(q)");
        c.due("visits", c.x.run(0), 3);
        c.due("rules", c.x.run(1), 5);
        c.tree("top(r(q,q))");
        c.due("visits", c.x.run(0), 7);
        c.due("rules, of OCCs without one, too", c.x.run(1), 13);
        c.tree("q");
        c.due("all visits of the root", c.x.run(0), 2);
        c.due("rules", c.x.run(1), 2);
        c.grammar(LOOP);
        c.tree("top(leaf)");
        c.refused("not ordered", c.x.run(0), 5);
        c.refused("what", c.x.run(2), 1);
    }

    private static void longest(Check c) {
        c.fresh();
        c.refused("no tree", c.x.longest(), 3);
        c.grammar(LIST);
        c.tree("top(end)");
        c.due("d, v, v", c.x.longest(), 3);
        c.tree("top 4(two(add 3(end 2),end 5))");
        c.due("d of nodes 1, 2, 3, v of 3, 2, 1, 0", c.x.longest(), 7);
        c.tree("two(end 2,end 5)");
        c.due("n of node 1, d of 2, v of 2, v of 0", c.x.longest(), 4);
        c.grammar(LOOP);
        c.tree("top(leaf)");
        c.due("a knot breaks it", c.x.longest(), 1);
        c.grammar("symbol s out v;prod p:s;rule p 0.v=0.v;");
        c.tree("p");
        c.due("none outside a knot", c.x.longest(), 0);
        c.grammar("symbol s;prod p:s;");
        c.tree("p");
        c.due("none at all", c.x.longest(), 0);
    }
}
