/** Promises 1 to 3: a new object, the latest STATUS, the tape. */
public final class NewObjectTest {
    public static void main(String[] args) {
        Check c = new Check("NewObjectTest");
        c.same("NONE", RuleShuttle.NONE, -1);
        newObject(c);
        latestStatus(c);
        feeding(c);
        c.end();
    }

    private static void newObject(Check c) {
        c.same("status() of a new object", c.x.status(), 0);
        c.same("fault(0) ahead of any text", c.x.fault(0), -1);
        c.same("fault(1) ahead of any text", c.x.fault(1), -1);
        for (int what = 0; what < 4; what++) {
            c.due("many", c.x.many(what), 0);
        }
        c.refused("many(4)", c.x.many(4), 3);
        c.refused("symbol(0, 0)", c.x.symbol(0, 0), 4);
        c.refused("production(0, 0)", c.x.production(0, 0), 4);
        c.refused("hangs(0, 0, 0, 0)", c.x.hangs(0, 0, 0, 0), 4);
        c.refused("hangs(0, 0, 0, 3)", c.x.hangs(0, 0, 0, 3), 1);
        c.refused("induced(0, 0, 0)", c.x.induced(0, 0, 0), 4);
        c.refused("circle(-1)", c.x.circle(-1), 2);
        c.refused("circle(-2)", c.x.circle(-2), 1);
        c.refused("visit(0, 0)", c.x.visit(0, 0), 4);
        c.refused("ordered(0)", c.x.ordered(0), 2);
        c.refused("ordered(2)", c.x.ordered(2), 1);
        c.refused("plan(0, -1)", c.x.plan(0, -1), 4);
        c.refused("plan(0, -2)", c.x.plan(0, -2), 1);
        c.refused("real(0)", c.x.real(0), 2);
        c.refused("real(4)", c.x.real(4), 1);
        c.refused("shades(0)", c.x.shades(0), 4);
        c.refused("tree(0)", c.x.tree(0), 2);
        c.refused("tree(1)", c.x.tree(1), 1);
        c.refused("node(0, 0)", c.x.node(0, 0), 3);
        c.refused("value(0, 0)", c.x.value(0, 0), 3);
        c.refused("knot(0, 0, 0)", c.x.knot(0, 0, 0), 3);
        c.refused("span(0, 0, 0)", c.x.span(0, 0, 0), 3);
        c.refused("run(0)", c.x.run(0), 3);
        c.refused("longest()", c.x.longest(), 3);
        c.refused("put(0, 0)", c.x.put(0, 0), 3);
        c.refused("give(0, 0)", c.x.give(0, 0), 3);
        c.refused("graft(0, 0)", c.x.graft(0, 0), 3);
        c.refused("anew(0)", c.x.anew(0), 3);
        c.refused("digest()", c.x.digest(), 3);
    }

    private static void latestStatus(Check c) {
        c.refused("many(5)", c.x.many(5), 1);
        c.x.feed(0, 0, 0, 0, 0);
        c.same("status() after feed()", c.x.status(), 1);
        c.x.fault(0);
        c.same("status() after fault()", c.x.status(), 1);
        c.same("status() again", c.x.status(), 1);
        c.due("many(0)", c.x.many(0), 0);
    }

    private static void feeding(Check c) {
        c.fresh();
        for (int times = 1; times <= 50; times++) {
            c.same("feed", c.x.feed(-1, 0, 1, 2, 3), 20 * times);
        }
        c.same("a feed too many", c.x.feed(0, 0, 0, 0, 0), -1);
        c.same("a feed too many again", c.x.feed(0, 0, 0, 0, 0), -1);
        c.same("status() after feeds", c.x.status(), 0);
        c.refused("grammar above the tape", c.x.grammar(1001), 1);
        c.refused("grammar below 0", c.x.grammar(-1), 1);
        c.same("a refused grammar leaves the tape", c.x.feed(0, 0, 0, 0, 0), -1);
        c.refused("grammar", c.x.grammar(1000), 9);
        c.same("fault(0)", c.x.fault(0), 1);
        c.same("fault(1)", c.x.fault(1), 0);
        c.same("the tape is empty behind a fault", c.x.feed(0, 0, 0, 0, 0), 20);
        c.fresh();
        // The highest byte of each int comes first.
        c.x.feed(0x73796d62, 0x6f6c2061, 0x20696e20, 0x62206f75, 0x7420633b);
        c.due("grammar of symbol a in b out c;", c.x.grammar(20), 0);
        c.due("many(0)", c.x.many(0), 1);
        c.due("symbol(0, 0)", c.x.symbol(0, 0), 1);
        c.due("symbol(0, 1)", c.x.symbol(0, 1), 1);
    }
}
