/**
 * All at its most: eight symbols of eight attributes, twelve productions of three children, forty nodes, a text of a
 * thousand bytes, 512 calls; and the same again and again on one object.
 */
public final class FullTest {
    private static final String NAMES = "abcdefgh";

    public static void main(String[] args) {
        Check c = new Check("FullTest");
        fullGrammar(c);
        fullTree(c);
        fullOfRules(c);
        againAndAgain(c);
        deepAndWideByTurns(c);
        c.end();
    }

    // Eight SYMBOLS of eight ATTRIBUTES each, twelve PRODUCTIONS of the last of them, each but one with three CHILDREN.
    private static String full() {
        StringBuilder text = new StringBuilder();
        for (char s : NAMES.toCharArray()) {
            text.append("symbol ").append(s).append(" in a b c d out e f g h;");
        }
        for (char p = 'a'; p <= 'l'; p++) {
            text.append("prod ").append(p).append(p == 'a' ? ":h;" : ":h h h h;");
        }
        return text.toString();
    }

    private static void fullGrammar(Check c) {
        String text = full() + "rule l 0.h=3.h;rule l 3.d=0.d;rule a 0.h=0.d;";
        c.fresh();
        c.due("grammar", c.grammar(text), 12);
        c.due("SYMBOLS", c.x.many(0), 8);
        c.due("RULES", c.x.many(2), 3);
        for (int s = 0; s < 8; s++) {
            c.due("in", c.x.symbol(s, 0), 4);
            c.due("out", c.x.symbol(s, 1), 4);
            c.due("PRODUCTIONS", c.x.symbol(s, 2), s == 7 ? 12 : 0);
            c.due("VISITS", c.x.symbol(s, 3), 1);
            c.due("the last ATTRIBUTE's", c.x.visit(s, 7), 1);
            c.due("INDUCED", c.x.induced(s, 7, 3), s == 7 ? 1 : 0);
        }
        c.due("the last OCC's RULE", c.x.hangs(11, 7, 31, 0), 1);
        c.due("CLOSED", c.x.hangs(11, 7, 3, 1), 1);
        c.due("by VISITS", c.x.hangs(11, 31, 24, 2), 1);
        c.due("by VISITS, of what has no RULE", c.x.hangs(11, 30, 27, 2), 1);
        c.due("in no circle", c.x.hangs(11, 31, 31, 2), 0);
        c.refused("no CIRCLE", c.x.circle(-1), 7);
        c.due("ordered", c.x.ordered(0), 1);
        c.due("STEPS", c.x.plan(11, -1), 16 + 3 + 1);
        c.due("the first", c.x.plan(11, 0), 104);
        c.due("the last but one, the LEFT side's h", c.x.plan(11, 18), 107);
        c.due("the last", c.x.plan(11, 19), 1001);
        // One SHADE with h on d; the others bring none by their RULES.
        c.due("SHADES", c.x.shades(7), 2);
        c.refused("none is REAL", c.x.real(1), 7);
        // Trees of a, of l with a third CHILD that is so, of the others; then no more.
        c.due("ROUNDS", c.x.real(2), 3);
        c.grammar(full() + "rule l 3.d=3.h;rule a 0.h=0.d;");
        c.due("the PRODUCTION of the first CIRCLE", c.x.circle(-1), 0);
        c.due("its OCC", c.x.circle(0), 3);
        c.due("REAL", c.x.real(1), 2);
        c.refused("no VISITS", c.x.symbol(7, 3), 7);
        c.due("of others", c.x.symbol(6, 3), 1);
        c.due("CLOSED", c.x.hangs(11, 31, 31, 1), 1);
    }

    private static String forty() {
        String four = "l(a,a,a)";
        String thirteen = "l(" + four + "," + four + "," + four + ")";
        return "l(" + thirteen + "," + thirteen + "," + thirteen + ")";
    }

    private static void fullTree(Check c) {
        c.fresh();
        c.grammar(full() + "rule l 0.h=3.h+num;rule l 3.d=0.d;rule a 0.h=0.d;rule l 0.e=1.e+2.e+3.e;rule a 0.e=1;");
        c.due("tree", c.tree(forty()), 40);
        c.due("the last VALUE", c.x.value(39, 7), 0);
        c.due("leaves", c.x.value(0, 4), 27);
        c.due("the last one's need", c.x.span(39, 7, 0), 5);
        c.due("the GIVEN one's reach", c.x.span(0, 3, 1), 8);
        c.due("give", c.x.give(3, -1), 0);
        c.due("ANEW", c.x.anew(0), 8);
        c.due("CHANGED", c.x.anew(1), 8);
        c.due("the last VALUE", c.x.value(39, 7), -1);
        c.due("put", c.x.put(39, 9999), 0);
        c.due("nothing asks it", c.x.anew(0), 0);
        c.due("VISITS", c.x.run(0), 40);
        c.due("RULES", c.x.run(1), 316);
        c.due("longest", c.x.longest(), 8);
        c.due("KNOTS", c.x.many(4), 0);
        c.due("the last one again", c.graft(39, "a 3"), 40);
        c.due("ANEW", c.x.anew(0), 4);
        c.due("CHANGED", c.x.anew(1), 0);
        c.due("all again", c.graft(0, forty()), 40);
        c.due("ANEW", c.x.anew(0), 316);
        c.due("CHANGED", c.x.anew(1), 312);
        c.due("GIVEN", c.x.value(39, 7), -1);
        c.due("a third of it", c.graft(27, "a"), 28);
        c.due("a third more", c.graft(14, "a"), 16);
        c.due("and all back", c.graft(1, "l(l(a,a,a),l(a,a,a),l(a,a,a))"), 16);
        c.due("leaves", c.x.value(0, 4), 11);
    }

    // As many RULES as there can be of one PRODUCTION, each of as many PARTS as a text of 1000 bytes has room for.
    private static String ofRules() {
        StringBuilder text = new StringBuilder("symbol s in a b c d out e f g h;prod p:s s s s;prod q:s;rule q 0.h=0.d+1;");
        for (int occ = 0; occ < 32; occ++) {
            if (occ % 8 >= 4 == occ < 8) {
                int over = occ < 8 ? 3 : 0;
                text.append("rule p ").append(occ / 8).append('.').append(NAMES.charAt(occ % 8)).append('=').append(over)
                        .append('.').append(NAMES.charAt(occ < 8 ? 7 : 3)).append("+1".repeat(12)).append(';');
            }
        }
        int left = 1000 - text.length() - "rule q 0.e=1;".length();
        int more = Math.min(23, left / 2);
        text.append("rule q 0.e=1").append("+1".repeat(more)).append(';');
        return text + " ".repeat(1000 - text.length());
    }

    private static void fullOfRules(Check c) {
        String text = ofRules();
        c.fresh();
        c.same("its length", text.length(), 1000);
        c.due("grammar", c.grammar(text), 2);
        c.due("RULES", c.x.production(0, 5), 16);
        c.due("tree", c.tree("p(q,q,p(q,q,q))"), 7);
        // d goes down by 12 a level, h comes up by 12 a level, and by one more in q.
        c.due("d of the last leaf", c.x.value(6, 3), 24);
        c.due("h of the root", c.x.value(0, 7), 24 + 1 + 24);
        c.due("e of the root", c.x.value(0, 4), 24 + 1 + 24);
    }

    // One object takes all this again and again: nothing of what went is left, and nothing fills up.
    private static void againAndAgain(Check c) {
        c.fresh();
        String text = ofRules();
        for (int times = 0; times < 8; times++) {
            c.due("grammar", c.grammar(text), 2);
            c.due("tree", c.tree("p(q,q,q)"), 4);
            c.due("h of the root", c.x.value(0, 7), 12 + 1 + 12);
        }
        c.fresh();
        for (int times = 0; times < 9; times++) {
            c.due("full", c.grammar(full()), 12);
            c.due("tree", c.tree("b(a,a,a)"), 4);
            c.due("longest", c.x.longest(), 1);
            c.due("small", c.grammar("symbol s out v;prod p:s s;prod q:s;rule p 0.v=1.v+1;rule q 0.v=num;"), 2);
            c.due("tree", c.tree("p(q 6)"), 2);
            c.due("VALUE", c.x.value(0, 0), 7);
            c.due("STEPS", c.x.plan(0, -1), 3);
            c.due("SHADES", c.x.shades(0), 1);
            c.refused("no other SYMBOL", c.x.shades(1), 4);
        }
    }

    // A tree that grows and shrinks to its most and least by grafts, with what is GIVEN all the time.
    private static void deepAndWideByTurns(Check c) {
        c.fresh();
        c.grammar("symbol s in d out v;prod a:s s;prod e:s;prod l:s s s s;rule a 1.d=0.d+1;rule a 0.v=1.v+1;rule e 0.v=0.d;"
                + "rule l 1.d=0.d;rule l 2.d=1.v;rule l 3.d=2.v;rule l 0.v=3.v;");
        c.due("tree", c.tree("e"), 1);
        c.due("give", c.x.give(0, 100), 0);
        String deep = "a(".repeat(11) + "e" + ")".repeat(11);
        String wide = forty().replace('a', 'e');
        for (int times = 0; times < 6; times++) {
            c.due("deep", c.graft(0, deep), 12);
            c.due("VALUE", c.x.value(0, 1), 122);
            c.due("longest", c.x.longest(), 24);
            c.due("wide", c.graft(0, wide), 40);
            c.due("VALUE", c.x.value(0, 1), 100);
            c.due("longest", c.x.longest(), 80);
            c.due("deep in place of the last one", c.graft(27, "a(".repeat(10) + "e" + ")".repeat(10)), 38);
            c.due("VALUE", c.x.value(0, 1), 120);
            c.due("one", c.graft(0, "e"), 1);
            c.due("VALUE", c.x.value(0, 1), 100);
        }
    }
}
