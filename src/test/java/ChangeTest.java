/** Promises 24 to 28: changes, and what is reckoned anew by them. */
public final class ChangeTest {
    private static final String LIST = "symbol s out v;symbol l in d out v n;prod top:s l;prod add:l l;prod end:l;"
            + "prod two:l l l;rule top 0.v=1.v;rule top 1.d=num;rule add 0.v=1.v+num;rule add 1.d=0.d+1;"
            + "rule add 0.n=1.n+1;rule end 0.v=0.d*num;rule end 0.n=1;rule two 0.v=1.v-2.v;rule two 1.d=0.d;"
            + "rule two 2.d=1.n;rule two 0.n=1.n+2.n;";
    private static final String LOOP = "symbol s in i out o;symbol c in a out b;prod top:s c;prod leaf:c;prod cut:c;"
            + "rule top 0.o=1.b+1;rule top 1.a=(1.b+0.i)min num;rule leaf 0.b=0.a;rule cut 0.b=num;";

    public static void main(String[] args) {
        Check c = new Check("ChangeTest");
        wrong(c);
        puts(c);
        gives(c);
        loops(c);
        grafts(c);
        graftsAtTheRoot(c);
        knotsThatWent(c);
        knotsOfTheFirstNode(c);
        graftFaults(c);
        graftLimits(c);
        c.end();
    }

    private static void anew(Check c, int reckoned, int changed) {
        c.due("anew(0)", c.x.anew(0), reckoned);
        c.due("anew(1)", c.x.anew(1), changed);
    }

    private static void wrong(Check c) {
        c.refused("put", c.x.put(0, 0), 3);
        c.refused("put above 9999", c.x.put(0, 10000), 1);
        c.refused("put below 0", c.x.put(0, -1), 1);
        c.refused("give", c.x.give(0, 0), 3);
        c.refused("graft", c.x.graft(0, 0), 3);
        c.refused("graft above the tape", c.x.graft(0, 1), 1);
        c.refused("anew", c.x.anew(0), 3);
        c.refused("anew(2)", c.x.anew(2), 1);
        c.refused("anew(-1)", c.x.anew(-1), 1);
        c.refused("digest", c.x.digest(), 3);
        c.grammar(LIST);
        c.refused("anew", c.x.anew(0), 3);
        c.tree("top(end)");
        c.refused("none since the tree was told", c.x.anew(0), 7);
        c.refused("anew(2)", c.x.anew(2), 1);
        c.refused("no node", c.x.put(2, 0), 4);
        c.refused("no node below 0", c.x.put(-1, 0), 4);
        c.refused("put above 9999", c.x.put(2, 10000), 1);
        c.refused("no in of the root", c.x.give(0, 0), 4);
        c.refused("no in below 0", c.x.give(-1, 0), 4);
        c.refused("no node to graft at", c.x.graft(2, 0), 4);
        c.refused("no node to graft at", c.x.graft(-1, 0), 4);
        c.refused("graft above the tape", c.x.graft(2, 1), 1);
        c.refused("graft below 0", c.x.graft(0, -1), 1);
        c.refused("still none", c.x.anew(1), 7);
        c.due("put(0, 0)", c.x.put(0, 0), 0);
        anew(c, 0, 0);
        c.tree("top(end)");
        c.refused("a new tree", c.x.anew(0), 7);
    }

    private static void puts(Check c) {
        c.fresh();
        c.grammar(LIST);
        // 0 top 2, 1 two, 2 add 3, 3 end 2, 4 end 5
        c.tree("top 2(two(add 3(end 2),end 5))");
        c.due("value", c.x.value(0, 0), -1);
        c.due("put(3, 7)", c.x.put(3, 7), 2);
        anew(c, 4, 4);
        c.due("number", c.x.node(3, 1), 7);
        c.due("value", c.x.value(3, 1), 21);
        c.due("value", c.x.value(0, 0), 14);
        c.due("the same number", c.x.put(3, 7), 7);
        anew(c, 0, 0);
        c.due("no rule asks its num", c.x.put(1, 9999), 0);
        anew(c, 0, 0);
        c.due("number", c.x.node(1, 1), 9999);
        // d of 1, d of 2, d of 3, v of 3, 2, 1, 0
        c.due("an in's rule asks its teller's num", c.x.put(0, 3), 2);
        anew(c, 7, 7);
        c.due("value", c.x.value(1, 0), 3);
        c.due("value", c.x.value(0, 0), 21);
        // v of 3 is 0 by any d then: what hangs on it is not reckoned.
        c.x.put(3, 0);
        anew(c, 4, 4);
        c.x.put(0, 9);
        anew(c, 4, 3);
        c.due("value", c.x.value(0, 0), -7);
        c.refused("a change that is refused", c.x.put(5, 1), 4);
        anew(c, 4, 3);
        c.x.put(1, 0);
        anew(c, 0, 0);
    }

    private static void gives(Check c) {
        c.fresh();
        c.grammar("symbol s in a b out v w;prod p:s;prod q:s s;rule p 0.v=0.a+0.b;rule p 0.w=0.b&1;rule q 1.a=0.a;"
                + "rule q 0.v=1.v;");
        c.tree("q(p)");
        c.due("given at first", c.x.value(0, 0), 0);
        c.due("give", c.x.give(0, -1), 0);
        anew(c, 4, 4);
        c.due("what it was", c.x.give(0, 5), -1);
        c.same("STATUS tells NONE from -1", c.x.status(), 0);
        anew(c, 4, 4);
        c.due("value", c.x.value(0, 2), 5);
        c.due("value of -1", c.x.give(0, -1), 5);
        c.due("value(0, 0)", c.x.value(0, 0), -1);
        c.same("STATUS tells NONE from -1", c.x.status(), 0);
        c.due("the same", c.x.give(0, -1), -1);
        anew(c, 0, 0);
        c.due("not asked", c.x.give(1, 1 << 31), 0);
        anew(c, 1, 1);
        c.refused("an out", c.x.give(2, 1), 4);
        anew(c, 1, 1);
        c.tree("p");
        c.due("nothing given by a new tree", c.x.value(0, 0), 0);
        c.due("give", c.x.give(1, 2), 0);
        // b itself, v, and w that stays 0
        anew(c, 3, 2);
        c.due("a new tree", c.tree("p"), 1);
        c.refused("none since", c.x.anew(0), 7);
    }

    private static void loops(Check c) {
        c.fresh();
        c.grammar(LOOP);
        c.tree("top 10(leaf)");
        c.x.give(0, 1);
        anew(c, 4, 4);
        c.due("turns", c.x.knot(1, 0, 1), 11);
        c.x.put(0, 11);
        anew(c, 3, 3);
        c.due("value", c.x.value(0, 1), 12);
        // The knot is reckoned as a whole from 0, though only a's rule asks i; it comes to the same.
        c.x.give(0, 11);
        anew(c, 3, 1);
        c.due("turns", c.x.knot(1, 0, 1), 2);
        c.x.put(1, 5);
        anew(c, 0, 0);
    }

    private static void grafts(Check c) {
        c.fresh();
        c.grammar(LIST);
        c.tree("top 2(two 1(add 3(end 2),end 5))");
        // The same again at node 2: its outs are reckoned, its new child is new; d of it is not.
        c.due("graft", c.graft(2, "add 3(end 2)"), 5);
        c.same("fault(0)", c.x.fault(0), 0);
        c.same("fault(1)", c.x.fault(1), -1);
        anew(c, 5, 3);
        c.due("graft", c.graft(2, "end"), 4);
        // Nodes behind are numbered anew: v and n of node 2, d, v of 3, v, n of 1, v of 0
        anew(c, 7, 7);
        c.due("parent", c.x.node(2, 2), 1);
        c.due("second child", c.x.node(1, 5), 3);
        c.due("its number", c.x.node(3, 1), 5);
        c.due("its d", c.x.value(3, 0), 1);
        c.due("size", c.x.node(0, 7), 4);
        c.due("value", c.x.value(0, 0), -5);
        c.due("graft", c.graft(3, " two 7 ( end 1 , two(end,end) )"), 8);
        c.due("parent", c.x.node(5, 2), 3);
        c.due("depth", c.x.node(7, 8), 4);
        c.due("place", c.x.node(1, 5), 3);
        c.due("size", c.x.node(3, 7), 5);
        c.due("d of the graft is as it was", c.x.value(3, 0), 1);
        c.due("longest", c.x.longest(), 8);
        // v, n of 3, 12 new ones, v of 1, n of 1, v of 0
        anew(c, 17, 17);
        c.due("all of the root's child", c.graft(1, "end 2"), 2);
        anew(c, 3, 3);
        c.due("digest", c.x.digest(), (((17 * 31 + 4) * 31 + 2) * 31 + 4) * 31 + 1);
        // The own number of the node that came is another one, and no value is.
        c.due("graft", c.graft(1, "add 4(end)"), 3);
        anew(c, 5, 4);
        c.due("graft", c.graft(1, "two 8(end,end)"), 4);
        anew(c, 9, 8);
    }

    private static void graftsAtTheRoot(Check c) {
        c.fresh();
        c.grammar("symbol s in a b out v w;prod p:s;prod q:s s;rule p 0.v=0.a+num;rule p 0.w=0.b;rule q 1.a=0.a;"
                + "rule q 0.v=1.v;");
        c.tree("q(p 3)");
        c.x.give(0, 4);
        c.x.give(1, 6);
        c.due("graft", c.graft(0, "p 3"), 1);
        c.due("what is given stays", c.x.value(0, 0), 4);
        c.due("what is given stays", c.x.value(0, 1), 6);
        // v is 7 as it was.
        anew(c, 2, 1);
        c.due("parent", c.x.node(0, 2), -1);
        c.due("graft", c.graft(0, "q(q(p 2))"), 3);
        anew(c, 10, 10);
        c.due("what is given is kept", c.x.give(0, 4), 4);
        c.due("nodes", c.x.many(3), 3);
    }

    private static void knotsThatWent(Check c) {
        c.fresh();
        c.grammar(LOOP);
        c.tree("top 10(leaf)");
        c.x.give(0, 1);
        // The knot went with node 1: its a is reckoned, as it was in it; b as an out.
        c.due("graft", c.graft(1, "cut 10"), 2);
        c.due("no knot by now", c.x.many(4), 0);
        anew(c, 2, 0);
        c.due("graft", c.graft(1, "cut 9"), 2);
        anew(c, 3, 2);
        c.due("a", c.x.value(1, 0), 10);
        c.due("graft", c.graft(1, "leaf"), 2);
        // A knot again, which is reckoned as a whole.
        c.due("a knot", c.x.many(4), 1);
        anew(c, 3, 2);
        // What was in a knot with one of a node that went, at the parent and at another child.
        c.grammar("symbol s in i out o;prod t:s s s;prod n:s;prod z:s;rule t 0.o=1.o;rule t 1.i=2.o;rule t 2.i=1.o;"
                + "rule n 0.o=0.i;");
        c.tree("t(n,n)");
        c.due("four in it", c.x.knot(1, 0, 0), 4);
        c.due("graft", c.graft(2, "z"), 3);
        c.due("none in it", c.x.many(4), 0);
        anew(c, 4, 0);
        c.due("graft", c.graft(2, "z"), 3);
        anew(c, 1, 0);
    }

    private static void knotsOfTheFirstNode(Check c) {
        c.fresh();
        // i hangs on itself by the parent's rule: the knot has an instance of the node that went.
        c.grammar("symbol s in i j out o;prod t:s s;prod n:s;rule t 1.i=1.i;rule t 1.j=3;rule t 0.o=num;");
        c.tree("t(n)");
        c.due("graft", c.graft(1, "n"), 2);
        anew(c, 2, 0);
        c.due("still a knot", c.x.knot(1, 0, 0), 1);
    }

    private static void graftFaults(Check c) {
        c.fresh();
        c.grammar(LIST);
        c.tree("top 2(two(add 3(end 2),end 5))");
        int digest = c.x.digest();
        c.graftFault(2, "top(end)", 7, 0);
        c.graftFault(0, "end", 7, 0);
        c.graftFault(2, "x", 3, 0);
        c.graftFault(2, "", 2, 0);
        c.graftFault(2, "add", 2, 3);
        c.graftFault(2, "end)", 2, 3);
        c.graftFault(2, "end,end", 2, 3);
        c.graftFault(2, "add(end", 2, 7);
        c.graftFault(2, "add(top", 7, 4);
        c.graftFault(2, "end 12345", 1, 4);
        c.graftFault(2, "end num", 2, 4);
        c.due("the tree stays", c.x.digest(), digest);
        c.due("the nodes stay", c.x.many(3), 5);
        c.refused("no change by now", c.x.anew(0), 7);
        c.same("the tape is empty behind a fault", c.feed("end"), 20);
        c.refused("no node", c.x.graft(5, 3), 4);
        c.same("the tape stays when a graft is refused otherwise", c.feed(" "), 40);
        c.same("and fault() tells what it told", c.x.fault(1), 4);
        c.due("graft", c.x.graft(1, 3), 2);
        c.same("the tape is empty then", c.feed("end"), 20);
        c.refused("a grammar takes what is there", c.x.grammar(20), 9);
        c.due("the graft stays", c.x.many(3), 2);
    }

    private static void graftLimits(Check c) {
        c.fresh();
        c.grammar("symbol s;prod a:s s;prod e:s;prod c:s s s s;");
        String four = "c(e,e,e)";
        String thirteen = "c(" + four + "," + four + "," + four + ")";
        c.tree("c(" + thirteen + "," + thirteen + "," + thirteen + ")");
        c.graftFault(39, "a(e)", 6, 2);
        c.graftFault(39, "a(x)", 3, 2);
        c.graftFault(1, "a(" + thirteen + ")", 6, ("a(" + thirteen).lastIndexOf('e'));
        c.due("as many again", c.graft(1, thirteen), 40);
        c.due("fewer", c.graft(1, "e"), 28);
        c.due("more", c.graft(1, thirteen), 40);
        c.due("the last one", c.graft(39, "e"), 40);
        c.due("a root of 40", c.graft(0, "c(" + thirteen + "," + thirteen + "," + thirteen + ")"), 40);
        c.graftFault(0, "a(c(" + thirteen + "," + thirteen + "," + thirteen + "))", 6,
                ("a(c(" + thirteen + "," + thirteen + "," + thirteen).lastIndexOf('e'));
        c.tree("a(a(e))");
        String ten = "a(".repeat(9) + "e" + ")".repeat(9);
        c.due("12 within one another", c.graft(2, ten), 12);
        c.graftFault(2, "a(" + ten + ")", 6, 20);
        c.due("at the root", c.graft(0, "a(a(" + ten + "))"), 12);
        c.graftFault(11, "a(e)", 6, 2);
        c.graftFault(0, "a(a(a(" + ten + ")))", 6, 24);
    }
}
