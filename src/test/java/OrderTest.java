/** Promises 6 to 14: what hangs on what, circles that may be, visits, blocks and plans. */
public final class OrderTest {
    // t: a 0, c 1, b 2, d 3; c hangs on b over the first production.
    private static final String TWO = "symbol s out v;symbol t in a c out b d;prod top:s t;prod q:t;"
            + "rule top 1.a=1;rule top 1.c=1.b;rule top 0.v=1.d;rule q 0.b=0.a;rule q 0.d=0.c;";
    // No circle, but in p each child's c hangs on the other one's b.
    private static final String CROSS = "symbol s out v;symbol x in a c out b d;prod q:x;prod p:s x x;"
            + "rule q 0.b=0.a;rule q 0.d=0.c;rule p 1.c=2.b;rule p 2.c=1.b;";
    // A circle that may be, but that no tree has.
    private static final String UNLIKE = "symbol s out v;symbol x in a c out b d;symbol y in i out o;prod n:y;"
            + "prod p:s x;prod l:x;prod r:x;rule p 1.a=1.d;rule p 1.c=1.b;rule l 0.b=0.a;rule r 0.d=0.c;";

    public static void main(String[] args) {
        Check c = new Check("OrderTest");
        shapes(c);
        hanging(c);
        circles(c);
        visits(c);
        noAttributes(c);
        manyVisits(c);
        outAlone(c);
        blocks(c);
        plans(c);
        planOrder(c);
        c.end();
    }

    private static void shapes(Check c) {
        c.fresh();
        c.due("grammar", c.grammar(TWO), 2);
        c.due("many(0)", c.x.many(0), 2);
        c.due("many(1)", c.x.many(1), 2);
        c.due("many(2)", c.x.many(2), 5);
        c.due("many(3)", c.x.many(3), 0);
        c.refused("many(4)", c.x.many(4), 3);
        c.refused("many(5)", c.x.many(5), 1);
        c.refused("many(-1)", c.x.many(-1), 1);
        c.due("symbol(1, 0)", c.x.symbol(1, 0), 2);
        c.due("symbol(1, 1)", c.x.symbol(1, 1), 2);
        c.due("symbol(0, 0)", c.x.symbol(0, 0), 0);
        c.due("symbol(0, 2)", c.x.symbol(0, 2), 1);
        c.due("symbol(1, 2)", c.x.symbol(1, 2), 1);
        c.refused("symbol(2, 0)", c.x.symbol(2, 0), 4);
        c.refused("symbol(-1, 0)", c.x.symbol(-1, 0), 4);
        c.refused("symbol(0, 4)", c.x.symbol(0, 4), 1);
        c.refused("symbol(9, -1)", c.x.symbol(9, -1), 1);
        c.due("production(0, 0)", c.x.production(0, 0), 0);
        c.due("production(0, 1)", c.x.production(0, 1), 1);
        c.due("production(0, 2)", c.x.production(0, 2), 1);
        c.refused("production(0, 3)", c.x.production(0, 3), 7);
        c.refused("production(1, 2)", c.x.production(1, 2), 7);
        c.due("production(1, 1)", c.x.production(1, 1), 0);
        c.due("production(0, 5)", c.x.production(0, 5), 3);
        c.refused("production(2, 0)", c.x.production(2, 0), 4);
        c.refused("production(-1, 5)", c.x.production(-1, 5), 4);
        c.refused("production(0, 6)", c.x.production(0, 6), 1);
        c.refused("production(5, -1)", c.x.production(5, -1), 1);
        c.due("three children", c.grammar("symbol a;symbol b;prod p:a b a b;"), 1);
        c.due("production(0, 4)", c.x.production(0, 4), 1);
        c.due("production(0, 3)", c.x.production(0, 3), 0);
        c.due("production(0, 5)", c.x.production(0, 5), 0);
        c.due("symbol(1, 2)", c.x.symbol(1, 2), 0);
    }

    private static void hanging(Check c) {
        c.fresh();
        c.grammar(TWO);
        c.due("by its rule", c.x.hangs(0, 9, 10, 0), 1);
        c.due("not over others", c.x.hangs(0, 9, 8, 0), 0);
        c.due("closed", c.x.hangs(0, 9, 8, 1), 1);
        c.due("closed over all", c.x.hangs(0, 0, 8, 1), 1);
        c.due("not the other way", c.x.hangs(0, 8, 0, 1), 0);
        c.due("in q by what top induces", c.x.hangs(1, 3, 0, 1), 1);
        c.due("not by its rule", c.x.hangs(1, 3, 0, 0), 0);
        c.due("not on itself", c.x.hangs(1, 3, 3, 2), 0);
        c.due("visits", c.x.hangs(1, 1, 2, 2), 1);
        c.refused("no OCC 1 of s", c.x.hangs(0, 1, 8, 0), 4);
        c.refused("no OCC 12 of t", c.x.hangs(0, 8, 12, 0), 4);
        c.refused("no position 2", c.x.hangs(0, 16, 8, 0), 4);
        c.refused("no OCC below 0", c.x.hangs(0, -1, 8, 0), 4);
        c.refused("no OCC above 31", c.x.hangs(0, 8, 40, 0), 4);
        c.refused("no production", c.x.hangs(2, 0, 0, 0), 4);
        c.refused("how", c.x.hangs(2, 0, 0, 3), 1);
        c.refused("how below 0", c.x.hangs(0, 8, 8, -1), 1);
        c.due("c on b", c.x.induced(1, 1, 2), 1);
        c.due("c on a", c.x.induced(1, 1, 0), 1);
        c.due("d on a", c.x.induced(1, 3, 0), 1);
        c.due("a on b", c.x.induced(1, 0, 2), 0);
        c.due("b on c", c.x.induced(1, 2, 1), 0);
        c.refused("no attribute", c.x.induced(1, 4, 0), 4);
        c.refused("no attribute to hang on", c.x.induced(1, 0, 4), 4);
        c.refused("no attribute below 0", c.x.induced(1, -1, 0), 4);
        c.refused("no symbol", c.x.induced(2, 0, 0), 4);
    }

    private static void circles(Check c) {
        c.fresh();
        c.refused("no grammar", c.x.circle(0), 2);
        c.refused("below NONE", c.x.circle(-2), 1);
        c.grammar(TWO);
        c.refused("none", c.x.circle(-1), 7);
        c.refused("none", c.x.circle(0), 7);
        c.grammar(UNLIKE);
        c.due("the first production with a circle", c.x.circle(-1), 1);
        c.due("its first OCC", c.x.circle(0), 8);
        c.refused("what hangs on itself in a production does so as induced", c.x.circle(1), 7);
        c.due("a on itself", c.x.induced(1, 0, 0), 1);
        c.due("a on itself, not by a rule", c.x.hangs(1, 8, 8, 0), 0);
        c.due("a on itself, closed", c.x.hangs(1, 8, 8, 1), 1);
        c.due("a on itself in another production", c.x.hangs(2, 0, 0, 1), 1);
        c.refused("a on itself by visits", c.x.hangs(1, 8, 8, 2), 7);
        c.due("how 2 where all has an order", c.x.hangs(0, 1, 0, 2), 1);
        c.refused("visits of x", c.x.symbol(1, 3), 7);
        c.refused("a visit of x", c.x.visit(1, 0), 7);
        c.due("visits of y", c.x.symbol(2, 3), 1);
        c.due("a visit of y", c.x.visit(2, 1), 1);
        c.due("ordered", c.x.ordered(0), 0);
        c.due("block", c.x.ordered(1), 1);
        c.due("a rule that asks itself", c.grammar("symbol s out v w;prod p:s;rule p 0.w=0.w;"), 1);
        c.due("its circle", c.x.circle(0), 1);
        c.due("by its rule", c.x.hangs(0, 1, 1, 0), 1);
    }

    private static void visits(Check c) {
        c.fresh();
        c.refused("no grammar", c.x.visit(0, 0), 4);
        c.grammar(TWO);
        c.due("symbol(1, 3)", c.x.symbol(1, 3), 2);
        c.due("symbol(0, 3)", c.x.symbol(0, 3), 1);
        c.due("a", c.x.visit(1, 0), 1);
        c.due("b", c.x.visit(1, 2), 1);
        c.due("c", c.x.visit(1, 1), 2);
        c.due("d", c.x.visit(1, 3), 2);
        c.refused("no attribute", c.x.visit(1, 4), 4);
        c.refused("no attribute below 0", c.x.visit(1, -1), 4);
        c.refused("no symbol", c.x.visit(2, 0), 4);
    }

    private static void noAttributes(Check c) {
        c.fresh();
        c.grammar("symbol s;symbol i in a b;symbol o out a b;prod p:s;prod q:s i o;");
        for (int s = 0; s < 3; s++) {
            c.due("one visit", c.x.symbol(s, 3), 1);
        }
        c.due("an in alone", c.x.visit(1, 1), 1);
        c.due("an out alone", c.x.visit(2, 1), 1);
        c.refused("none to be in a visit", c.x.visit(0, 0), 4);
        c.due("plan(0, -1)", c.x.plan(0, -1), 1);
        c.due("plan(0, 0)", c.x.plan(0, 0), 1001);
        int[] due = {108, 109, 11, 21, 1001};
        steps(c, 1, due);
        c.due("nothing but a symbol", c.grammar("symbol s;"), 0);
        c.due("ordered", c.x.ordered(0), 1);
        c.refused("no production", c.x.plan(0, -1), 4);
    }

    /** Eight attributes in a row: e on a, b on e, f on b, ..; four visits. */
    private static void manyVisits(Check c) {
        String x = "symbol x in a b c d out e f g h;prod n:x;rule n 0.e=0.a;rule n 0.f=0.b;rule n 0.g=0.c;"
                + "rule n 0.h=0.d;";
        c.fresh();
        c.grammar(x + "symbol s out v;prod p:s x;rule p 0.v=1.h;rule p 1.b=1.e;rule p 1.c=1.f;rule p 1.d=1.g;");
        c.due("four visits", c.x.symbol(0, 3), 4);
        for (int a = 0; a < 8; a++) {
            c.due("visit", c.x.visit(0, a), a % 4 + 1);
        }
        steps(c, 0, new int[] {104, 1001, 105, 1002, 106, 1003, 107, 1004});
        steps(c, 1, new int[] {108, 11, 109, 12, 110, 13, 111, 14, 100, 1001});
        // Out first: a on e, f on a, b on f, ..; five visits, of which the last has no outs.
        c.grammar("symbol x in a b c d out e f g h;prod n:x;rule n 0.f=0.a;rule n 0.g=0.b;rule n 0.h=0.c;"
                + "prod p:x x;rule p 1.a=1.e;rule p 1.b=1.f;rule p 1.c=1.g;rule p 1.d=1.h;");
        c.due("five visits", c.x.symbol(0, 3), 5);
        for (int a = 0; a < 4; a++) {
            c.due("visit of an in", c.x.visit(0, a), a + 2);
            c.due("visit of an out", c.x.visit(0, a + 4), a + 1);
        }
        steps(c, 0, new int[] {104, 1001, 105, 1002, 106, 1003, 107, 1004, 1005});
        c.due("the last step of p", c.x.plan(1, c.x.plan(1, -1) - 1), 1005);
    }

    private static void outAlone(Check c) {
        c.fresh();
        c.grammar("symbol x in i out a b;prod n:x;rule n 0.b=0.i;prod p:x x;rule p 1.i=1.a;");
        c.due("an out set ahead of all ins is a visit alone", c.x.symbol(0, 3), 2);
        c.due("i", c.x.visit(0, 0), 2);
        c.due("a", c.x.visit(0, 1), 1);
        c.due("b", c.x.visit(0, 2), 2);
        c.due("i hangs on a by visits", c.x.hangs(0, 0, 1, 2), 1);
        c.due("b hangs on a by visits", c.x.hangs(0, 2, 1, 2), 1);
        c.due("a hangs on nothing", c.x.hangs(0, 1, 0, 2), 0);
    }

    private static void blocks(Check c) {
        c.fresh();
        c.refused("no grammar", c.x.ordered(0), 2);
        c.refused("what", c.x.ordered(2), 1);
        c.refused("what below 0", c.x.ordered(-1), 1);
        c.grammar(CROSS);
        c.refused("no circle", c.x.circle(-1), 7);
        c.due("but not ordered", c.x.ordered(0), 0);
        c.due("block", c.x.ordered(1), 1);
        c.due("one visit of x", c.x.symbol(1, 3), 1);
        c.due("c of the first child on itself by visits", c.x.hangs(1, 9, 9, 2), 1);
        c.due("closed alone", c.x.hangs(1, 9, 9, 1), 0);
        c.refused("plan", c.x.plan(0, -1), 5);
        c.refused("plan of no production", c.x.plan(2, 0), 4);
        c.refused("plan below NONE", c.x.plan(2, -2), 1);
        c.tree("p(q,q)");
        c.refused("run", c.x.run(0), 5);
        // A block by visits ahead of one by a circle.
        c.grammar(CROSS + "symbol z out o;prod y:z;rule y 0.o=0.o;");
        c.due("the first block is no circle", c.x.ordered(1), 1);
        c.due("the first circle is behind it", c.x.circle(-1), 2);
        c.grammar(TWO);
        c.due("ordered", c.x.ordered(0), 1);
        c.refused("no block", c.x.ordered(1), 7);
    }

    private static void plans(Check c) {
        c.fresh();
        c.refused("no grammar", c.x.plan(0, 0), 4);
        c.grammar(TWO);
        steps(c, 0, new int[] {108, 11, 109, 12, 100, 1001});
        steps(c, 1, new int[] {102, 1001, 103, 1002});
        c.refused("below NONE", c.x.plan(0, -2), 1);
        c.refused("no production", c.x.plan(2, -1), 4);
    }

    private static void planOrder(Check c) {
        c.fresh();
        // Rules ahead of visits, the first OCC first; without a rule, too; the first child first.
        c.grammar("symbol s in i out v w;symbol t in a b out c;prod p:s t t;rule p 0.v=2.c;rule p 1.b=0.i;"
                + "rule p 2.a=1.c;");
        steps(c, 0, new int[] {102, 108, 109, 117, 11, 116, 21, 101, 1001});
        // A second child can be visited ahead of the first one.
        c.grammar("symbol s out v;symbol t in a out c;prod p:s t t;rule p 1.a=2.c;rule p 0.v=1.c;");
        steps(c, 0, new int[] {116, 21, 108, 11, 100, 1001});
        // An out of a later visit is told early, if it can be; then the visit is left at once.
        c.grammar("symbol x in a b out c d;prod n:x;rule n 0.d=0.a;prod m:x;rule m 0.c=0.a;rule m 0.d=0.b;"
                + "prod p:x x;rule p 1.b=1.c;rule p 0.c=0.a;");
        c.due("two visits", c.x.symbol(0, 3), 2);
        steps(c, 0, new int[] {102, 1001, 103, 1002});
        steps(c, 1, new int[] {102, 1001, 103, 1002});
        steps(c, 2, new int[] {102, 1001, 103, 108, 11, 109, 12, 1002});
    }

    private static void steps(Check c, int p, int[] due) {
        c.due("plan(" + p + ", -1)", c.x.plan(p, -1), due.length);
        for (int i = 0; i < due.length; i++) {
            c.due("plan(" + p + ", " + i + ")", c.x.plan(p, i), due[i]);
        }
        c.refused("plan(" + p + ", " + due.length + ")", c.x.plan(p, due.length), 7);
    }
}
