/**
 * Terms 3 from CHANGES on, promises 24 to 28, sentence by sentence at its edges: own numbers, given values and grafts,
 * what is reckoned anew by each, and what is changed then.
 */
public final class ChangeEdgesTest {
    // d goes down by one more each, v comes up; each NODE's num is added.
    private static final String CHAIN = "symbol s in d out v;prod e:s;prod a:s s;prod b:s s s;rule e 0.v=0.d+num;"
            + "rule a 1.d=0.d+1;rule a 0.v=1.v+num;rule b 1.d=0.d;rule b 2.d=1.v;rule b 0.v=2.v;";
    // A KNOT over the first CHILD, if it is a leaf, and one over the second likewise; i is GIVEN.
    private static final String LOOPS = "symbol s in i out o;symbol c in a out b;prod p:s c c;prod leaf:c;prod cut:c;"
            + "rule p 1.a=1.b max 0.i;rule p 2.a=2.b max num;rule p 0.o=1.b+2.b;rule leaf 0.b=0.a;rule cut 0.b=num;";
    private static final String SHAPES = "symbol s;symbol t;prod e:s;prod a:s s;prod c:s s s s;prod o:t;prod u:t s t;";
    private static final int MIN = Integer.MIN_VALUE;
    private static final int MAX = Integer.MAX_VALUE;

    public static void main(String[] args) {
        Check c = new Check("ChangeEdgesTest");
        ownNumbers(c);
        rulesThatAskNum(c);
        insOfTheRoot(c);
        anyValue(c);
        onlyByWhatChanged(c);
        sameAgain(c);
        outsOfTheFirst(c);
        newOnes(c);
        insOfTheFirst(c);
        numberedAnew(c);
        atTheRoot(c);
        lastNode(c);
        knotAsAWhole(c);
        knotLeftAlone(c);
        knotThatWent(c);
        knotThatCame(c);
        knotOverOthers(c);
        knotOfItself(c);
        knotsOfEarlierGrafts(c);
        latestChange(c);
        graftTexts(c);
        graftOfItsSymbol(c);
        fortyInAll(c);
        twelveInAll(c);
        digests(c);
        c.end();
    }

    private static void plant(Check c, String grammar, String tree) {
        c.fresh();
        c.grammar(grammar);
        c.tree(tree);
        c.same("status of tree " + tree, c.x.status(), 0);
        c.refused("no change by now", c.x.anew(0), 7);
    }

    private static void anew(Check c, int reckoned, int changed) {
        c.due("anew(0)", c.x.anew(0), reckoned);
        c.due("anew(1)", c.x.anew(1), changed);
    }

    private static void put(Check c, int k, int number, int was, int reckoned, int changed) {
        c.due("put(" + k + ", " + number + ")", c.x.put(k, number), was);
        c.due("its own number", c.x.node(k, 1), number);
        anew(c, reckoned, changed);
    }

    private static void give(Check c, int a, int value, int was, int reckoned, int changed) {
        c.due("give(" + a + ", " + value + ")", c.x.give(a, value), was);
        c.due("its VALUE", c.x.value(0, a), value);
        anew(c, reckoned, changed);
    }

    private static void graft(Check c, int k, String text, int nodes, int reckoned, int changed) {
        c.due("graft of " + text + " at " + k, c.graft(k, text), nodes);
        c.due("many(3)", c.x.many(3), nodes);
        anew(c, reckoned, changed);
    }

    private static String deep(int many) {
        return "a(".repeat(many - 1) + "e" + ")".repeat(many - 1);
    }

    // ---- own numbers

    // "A NODE's own number is another one: what it was (1: not 0 to 9999; 3; 4)."
    private static void ownNumbers(Check c) {
        plant(c, CHAIN, "a 7(e 9999)");
        put(c, 0, 0, 7, 1, 1);
        put(c, 1, 0, 9999, 2, 2);
        put(c, 1, 9999, 0, 2, 2);
        put(c, 0, 9999, 0, 1, 1);
        c.due("VALUE", c.x.value(0, 1), 9999 + 9999 + 1);
        for (int number : new int[] {-1, 10000, MIN, MAX}) {
            c.refused("put(1, " + number + ")", c.x.put(1, number), 1);
            c.refused("put(9, " + number + ")", c.x.put(9, number), 1);
        }
        for (int k : new int[] {2, -1, 40, MIN, MAX}) {
            c.refused("put(" + k + ", 1)", c.x.put(k, 1), 4);
        }
        c.due("it stays", c.x.node(1, 1), 9999);
        anew(c, 1, 1);
        // The greatest can be told by a text, too.
        c.due("tree", c.tree("e 9999"), 1);
        put(c, 0, 9999, 9999, 0, 0);
    }

    // "if its RULE asks num and that NODE's number is another one"
    private static void rulesThatAskNum(Check c) {
        String text = "symbol s in w x y z out f g h i;prod p:s s s s;prod e:s;rule p 0.f=num;rule p 0.i=1.i+num;rule p 1.w=num;"
                + "rule p 3.z=num;rule p 2.x=0.f;rule p 0.g=7;rule e 0.f=if(1,2,num);rule e 0.g=num*0;rule e 0.h=0.g;";
        plant(c, text, "p(e,e,e)");
        // The root's f and i, w of the first, z of the third CHILD; x of the second hangs on f.
        put(c, 0, 3, 0, 5, 5);
        c.due("f", c.x.value(0, 4), 3);
        c.due("i", c.x.value(0, 7), 3);
        c.due("w of the first", c.x.value(1, 0), 3);
        c.due("x of the second", c.x.value(2, 1), 3);
        c.due("z of the third", c.x.value(3, 3), 3);
        // f asks it, though it is not taken; g, too, and is 0: h is not reckoned.
        put(c, 2, 5, 0, 2, 0);
        put(c, 2, 5, 5, 0, 0);
        // The first OCC, the number 0; a PRODUCTION that has no RULE that asks.
        plant(c, "symbol s out v;prod p:s;prod q:s s;rule p 0.v=num;rule q 0.v=5;", "q(p)");
        put(c, 1, 1, 0, 1, 1);
        put(c, 0, 1, 0, 0, 0);
        // What asked it by a GRAMMAR that went does so no more.
        c.grammar("symbol s out v;prod p:s;prod q:s s;rule p 0.v=num;rule q 0.v=5;");
        c.grammar("symbol s out v;prod p:s;prod q:s s;rule p 0.v=4;");
        c.tree("q(p)");
        put(c, 1, 1, 0, 0, 0);
    }

    // ---- given values

    // "An in ATTRIBUTE of the root is GIVEN: what it was (3; 4: no such in)"
    private static void insOfTheRoot(Check c) {
        plant(c, "symbol s in a b c d out e;prod p:s;symbol t out v;prod q:t;symbol u;prod r:u;", "p");
        for (int a = 0; a < 4; a++) {
            give(c, a, a + 10, 0, 1, 1);
        }
        for (int a = 0; a < 4; a++) {
            give(c, a, 0, a + 10, 1, 1);
        }
        for (int a : new int[] {4, 5, 8, -1, MIN, MAX}) {
            c.refused("give(" + a + ", 1)", c.x.give(a, 1), 4);
        }
        c.due("an out is none", c.x.value(0, 4), 0);
        anew(c, 1, 1);
        c.tree("q");
        c.refused("a root without ins", c.x.give(0, 1), 4);
        c.tree("r");
        c.refused("a root without ATTRIBUTES", c.x.give(0, 1), 4);
        c.refused("no change by now", c.x.anew(0), 7);
    }

    // "STATUS tells NONE from -1"
    private static void anyValue(Check c) {
        plant(c, CHAIN, "e");
        int was = 0;
        for (int value : new int[] {-1, MIN, MAX, 1, 10000, -9999}) {
            give(c, 0, value, was, 2, 2);
            c.due("v", c.x.value(0, 1), value);
            was = value;
        }
        give(c, 0, was, was, 0, 0);
        give(c, 0, 0, was, 2, 2);
    }

    // "it hangs on one that is CHANGED", "CHANGED are those of which the VALUE is another one then"
    private static void onlyByWhatChanged(Check c) {
        plant(c, "symbol s in d out u v w;prod p:s;rule p 0.u=0.d&1;rule p 0.v=0.u;rule p 0.w=0.v+0.d;", "p");
        // u is reckoned and stays 0: v isn't reckoned; w hangs on d, too.
        give(c, 0, 2, 0, 3, 2);
        give(c, 0, 3, 2, 4, 4);
        c.due("w", c.x.value(0, 3), 4);
        // v is 0 and d one less than w was: all but w are other ones.
        give(c, 0, 4, 3, 4, 3);
        c.due("w", c.x.value(0, 3), 4);
        // "INSTANCES are gone through, none ahead of what it hangs on": w is told ahead of what it hangs on.
        plant(c, "symbol s in d out w v u;prod p:s;rule p 0.w=0.v+0.u;rule p 0.v=0.u+1;rule p 0.u=0.d;", "p");
        give(c, 0, 5, 0, 4, 4);
        c.due("w", c.x.value(0, 1), 11);
    }

    // The same own number, the same value, the same tree is no change of any INSTANCE.
    private static void sameAgain(Check c) {
        plant(c, CHAIN, "b(a 3(e 1),e)");
        give(c, 0, 5, 0, 8, 8);
        give(c, 0, 5, 5, 0, 0);
        put(c, 1, 3, 3, 0, 0);
        // One out of each first NODE, and the new ones below it.
        graft(c, 3, "e", 4, 1, 0);
        graft(c, 2, "e 1", 4, 1, 0);
        graft(c, 1, "a 3(e 1)", 4, 3, 2);
        graft(c, 0, "b(a 3(e 1),e)", 4, 7, 6);
        c.due("v", c.x.value(0, 1), 10);
    }

    // ---- grafts

    // "or an out of that first NODE (which stand for those of the NODE that went, as its ins do)"
    private static void outsOfTheFirst(Check c) {
        plant(c, "symbol s in i out u v w;prod p:s s;prod n:s;prod m:s;rule n 0.u=1;rule n 0.v=2;rule m 0.u=1;rule m 0.w=0.u;"
                + "rule p 0.u=1.u;rule p 0.v=1.v;rule p 0.w=1.w;", "p(n)");
        // u stays 1; v was 2 and has no RULE now; w was 0 and is 1. So the root's v and w.
        graft(c, 1, "m", 2, 5, 4);
        int[] due = {0, 1, 0, 1};
        for (int a = 0; a < due.length; a++) {
            c.due("VALUE of the root's " + a, c.x.value(0, a), due[a]);
            c.due("VALUE", c.x.value(1, a), due[a]);
        }
        // All three outs, none of them another one.
        graft(c, 1, "m 9", 2, 3, 0);
        c.due("its own number", c.x.node(1, 1), 9);
    }

    // "or it is new (of a NODE that came by a GRAFT, but its first one)", "and all new ones"
    private static void newOnes(Check c) {
        plant(c, CHAIN, "a(e)");
        // v of 1 is by one more then, and so the root's; the new ones are d and v of 2.
        graft(c, 1, "a(e)", 3, 4, 4);
        graft(c, 1, "a(e)", 3, 3, 2);
        graft(c, 1, "b(e,e)", 4, 6, 6);
        // New ones of which the VALUE is 0, as if they had been there: all the same.
        plant(c, "symbol s in i out o;prod e:s;prod a:s s;", "a(e)");
        graft(c, 1, "a(a(e))", 4, 5, 4);
        graft(c, 1, "e", 2, 1, 0);
        graft(c, 1, deep(11), 12, 21, 20);
    }

    // "as its ins do": they are not new, and reckoned only for what they hang on.
    private static void insOfTheFirst(Check c) {
        String text = "symbol s in g out o;symbol x in i j out b;prod p:s x;prod n:x;rule p 1.i=1.b;rule p 1.j=0.g+num;rule n 0.b=num;";
        plant(c, text, "p(n)");
        graft(c, 1, "n", 2, 1, 0);
        graft(c, 1, "n 5", 2, 2, 2);
        c.due("i", c.x.value(1, 0), 5);
        c.due("j", c.x.value(1, 1), 0);
        put(c, 0, 4, 0, 1, 1);
        graft(c, 1, "n 6", 2, 2, 2);
        c.due("i", c.x.value(1, 0), 6);
        c.due("j stays", c.x.value(1, 1), 4);
        give(c, 0, 3, 0, 2, 2);
        c.due("j by what is GIVEN", c.x.value(1, 1), 7);
    }

    // "NODES are numbered anew"
    private static void numberedAnew(Check c) {
        plant(c, CHAIN, "b(a(e),e 3)");
        graft(c, 1, "e 1", 3, 1, 0);
        c.due("the second CHILD", c.x.node(0, 5), 2);
        c.due("its own number", c.x.node(2, 1), 3);
        c.due("its d", c.x.value(2, 0), 1);
        c.due("its v", c.x.value(2, 1), 4);
        // v of 1, four new ones, d and v of what is the fifth NODE then, the root's v.
        graft(c, 1, "a(a(e))", 5, 8, 8);
        int[][] due = {{-1, 5, 0}, {0, 3, 1}, {1, 2, 2}, {2, 1, 3}, {0, 1, 1}};
        for (int k = 0; k < due.length; k++) {
            c.due("PARENT", c.x.node(k, 2), due[k][0]);
            c.due("how many", c.x.node(k, 7), due[k][1]);
            c.due("how deep", c.x.node(k, 8), due[k][2]);
        }
        c.due("the second CHILD", c.x.node(0, 5), 4);
        c.due("its own number", c.x.node(4, 1), 3);
        c.due("its v", c.x.value(4, 1), 5);
        // What changes then is under the new numbers.
        put(c, 4, 4, 3, 2, 2);
        put(c, 3, 1, 0, 6, 6);
        c.due("v", c.x.value(0, 1), 7);
        // With NODES behind that have CHILDREN of their own, in a tree that grows and shrinks.
        plant(c, CHAIN, "b(e,a 1(b(e 2,a 3(e))))");
        // v of 1, two new ones, all eleven that hang on it.
        graft(c, 1, "a(e)", 8, 14, 14);
        c.due("PARENT", c.x.node(7, 2), 6);
        c.due("PARENT", c.x.node(6, 2), 4);
        c.due("PARENT", c.x.node(3, 2), 0);
        c.due("its own number", c.x.node(6, 1), 3);
        graft(c, 1, "e 1", 7, 1, 0);
        c.due("PARENT", c.x.node(6, 2), 5);
        c.due("its own number", c.x.node(5, 1), 3);
    }

    // "the root's GIVEN values stay"
    private static void atTheRoot(Check c) {
        plant(c, CHAIN, "a(e)");
        give(c, 0, -7, 0, 4, 4);
        graft(c, 0, "e", 1, 1, 1);
        c.due("GIVEN", c.x.value(0, 0), -7);
        graft(c, 0, "a(a(e))", 3, 5, 5);
        c.due("GIVEN", c.x.value(0, 0), -7);
        c.due("below", c.x.value(2, 0), -5);
        graft(c, 0, "a(a(e))", 3, 5, 4);
        c.due("what it was", c.x.give(0, 1), -7);
        c.due("no PARENT", c.x.node(0, 2), -1);
        // A fault leaves what is GIVEN, a new TREE doesn't.
        c.graftFaultAt(0, 2, "a(e^");
        c.due("GIVEN", c.x.value(0, 0), 1);
        c.tree("e");
        c.due("nothing GIVEN", c.x.value(0, 0), 0);
        graft(c, 0, "e", 1, 1, 0);
        c.due("nothing GIVEN", c.x.value(0, 0), 0);
    }

    private static void lastNode(Check c) {
        plant(c, CHAIN, deep(12));
        graft(c, 11, "e", 12, 1, 0);
        graft(c, 11, "e 1", 12, 12, 12);
        for (int k : new int[] {12, 39, 40, -1, MIN, MAX}) {
            c.refused("graft at " + k, c.x.graft(k, 0), 4);
        }
        graft(c, 0, "e", 1, 1, 1);
        graft(c, 0, deep(12), 12, 23, 23);
    }

    // ---- knots

    // "a KNOT as a whole, if one of its INSTANCES is so"
    private static void knotAsAWhole(Check c) {
        plant(c, "symbol s in i j out u v w;prod p:s;rule p 0.u=0.w+num min 3;rule p 0.v=0.u;rule p 0.w=0.v+0.j;", "p");
        // One of them asks num, one of them j; all are 0 at first.
        put(c, 0, 1, 0, 3, 3);
        c.due("TURNS", c.x.knot(0, 2, 1), 4);
        c.due("VALUE", c.x.value(0, 4), 3);
        put(c, 0, 3, 1, 3, 0);
        c.due("TURNS", c.x.knot(0, 2, 1), 2);
        give(c, 1, 1, 0, 4, 2);
        c.due("w", c.x.value(0, 4), 4);
        give(c, 0, 1, 0, 1, 1);
        // One hangs on one that is CHANGED.
        plant(c, "symbol s in i out o u v;prod p:s;rule p 0.o=0.i&1;rule p 0.u=0.v|0.o;rule p 0.v=0.u;", "p");
        give(c, 0, 2, 0, 2, 1);
        give(c, 0, 3, 2, 4, 4);
        give(c, 0, 5, 3, 2, 1);
    }

    private static void knotLeftAlone(Check c) {
        plant(c, LOOPS, "p(leaf,leaf)");
        c.due("KNOTS", c.x.many(4), 2);
        // i, a and b of the first, the root's o.
        give(c, 0, 5, 0, 4, 4);
        put(c, 0, 7, 0, 3, 3);
        c.due("o", c.x.value(0, 1), 12);
        c.due("TURNS of the first", c.x.knot(1, 0, 1), 2);
        // A graft at the second leaves the first alone; o comes to the same.
        graft(c, 2, "cut 7", 3, 2, 0);
        c.due("KNOTS", c.x.many(4), 1);
        c.due("of the first", c.x.knot(1, 1, 0), 2);
        // Unsettled ones, too, stay as they are.
        plant(c, "symbol s in i out u v;prod p:s;prod q:s s;rule q 1.i=0.i;rule p 0.u=0.u+1;rule p 0.v=num;rule q 0.u=0.u*3+1;",
                "q(p)");
        int root = c.x.value(0, 1);
        for (int number = 5; number < 8; number++) {
            put(c, 1, number, number == 5 ? 0 : number - 1, 1, 1);
            c.due("64", c.x.value(1, 1), 64);
            for (int k = 0; k < 2; k++) {
                c.due("TURNS", c.x.knot(k, 1, 1), 64);
                c.due("UNSETTLED", c.x.knot(k, 1, 2), 1);
            }
        }
        graft(c, 1, "p", 2, 2, 1);
        c.due("64", c.x.value(1, 1), 64);
        c.due("the root's", c.x.value(0, 1), root);
        c.due("the root's", c.x.knot(0, 1, 2), 1);
    }

    // "or it was, ahead of a GRAFT, in a KNOT with one of a NODE that went"
    private static void knotThatWent(Check c) {
        plant(c, LOOPS, "p(leaf,leaf)");
        give(c, 0, 5, 0, 4, 4);
        // a of the first was in it: reckoned, though 5 as it was; b is an out.
        graft(c, 1, "cut 5", 3, 2, 0);
        c.due("KNOTS", c.x.many(4), 1);
        graft(c, 1, "cut 5", 3, 1, 0);
        // The first CHILD's in hangs on it again, but was in no KNOT; then it is one again, as a whole.
        graft(c, 1, "leaf", 3, 2, 0);
        c.due("KNOTS", c.x.many(4), 2);
        graft(c, 1, "leaf", 3, 2, 0);
        graft(c, 2, "cut 3", 3, 3, 3);
        c.due("a of the second", c.x.value(2, 0), 3);
    }

    private static void knotThatCame(Check c) {
        // o of the root is in a KNOT only as long as the CHILD's b hangs on its a.
        plant(c, "symbol s out o u;symbol c in a out b;prod p:s c;prod leaf:c;prod cut:c;rule p 1.a=0.o;rule p 0.o=1.b|1;"
                + "rule leaf 0.b=0.a;rule cut 0.b=num;rule p 0.u=0.o;", "p(cut 1)");
        c.due("no KNOT", c.x.many(4), 0);
        // o, a, b: one of them is an out of the first NODE.
        graft(c, 1, "leaf", 2, 3, 0);
        c.due("of three", c.x.knot(0, 0, 0), 3);
        graft(c, 1, "cut 3", 2, 4, 4);
        c.due("no KNOT", c.x.many(4), 0);
        graft(c, 1, "cut 5", 2, 4, 4);
        graft(c, 1, "leaf", 2, 4, 4);
        c.due("o", c.x.value(0, 0), 1);
    }

    // Those of the PARENT and of other CHILDREN that were in it, and of what is below these.
    private static void knotOverOthers(Check c) {
        String text = "symbol s in i out o;prod t:s s s;prod n:s;prod z:s;prod w:s s;rule t 0.o=1.o;rule t 1.i=2.o;rule t 2.i=1.o;"
                + "rule n 0.o=0.i;rule w 1.i=0.i;rule w 0.o=1.o;";
        plant(c, text, "t(w(w(n)),n)");
        c.due("KNOTS", c.x.many(4), 1);
        c.due("of eight", c.x.knot(3, 1, 0), 8);
        // The second goes: i of it, six of the others; o of it; nothing is another one, so not the root's o.
        graft(c, 4, "z", 5, 8, 0);
        c.due("no KNOT", c.x.many(4), 0);
        graft(c, 4, "z", 5, 1, 0);
        // One comes that is in the KNOT with all of them.
        graft(c, 4, "n", 5, 8, 0);
        c.due("of eight", c.x.knot(3, 1, 0), 8);
        // The deepest goes, and is the same again.
        graft(c, 3, "n", 5, 8, 0);
        graft(c, 3, "w(n)", 6, 10, 2);
        graft(c, 2, "n", 4, 6, 0);
    }

    // An in of the first NODE that hangs on itself: its KNOT was one of the NODE that went.
    private static void knotOfItself(Check c) {
        plant(c, "symbol s;symbol x in i j out o;prod p:s x x;prod n:x;rule p 1.i=1.i|1;rule p 2.i=2.i|2;rule p 1.j=3;", "p(n,n)");
        c.due("KNOTS", c.x.many(4), 2);
        graft(c, 1, "n", 3, 2, 0);
        graft(c, 2, "n", 3, 2, 0);
        c.due("KNOTS", c.x.many(4), 2);
        c.due("VALUE", c.x.value(2, 0), 2);
    }

    // What was in a KNOT that went by an earlier GRAFT is not reckoned by a later one.
    private static void knotsOfEarlierGrafts(Check c) {
        String text = "symbol s in a b c d out f g h i;prod p:s s s s;prod n:s;prod m:s;rule n 0.f=0.g;rule n 0.g=0.f;rule n 0.h=0.i;"
                + "rule n 0.i=0.h;rule p 1.a=1.a;rule p 1.b=1.b;rule p 1.c=1.c;rule p 1.d=1.d;";
        plant(c, text, "p(n,n,n)");
        c.due("KNOTS", c.x.many(4), 10);
        graft(c, 1, "m", 4, 8, 0);
        graft(c, 2, "m", 4, 4, 0);
        graft(c, 3, "m", 4, 4, 0);
        graft(c, 2, "n", 4, 4, 0);
        graft(c, 2, "m", 4, 4, 0);
        graft(c, 3, "p(n,n,n)", 7, 28, 24);
        graft(c, 3, "m", 4, 4, 0);
        graft(c, 2, "m", 4, 4, 0);
        graft(c, 1, "m", 4, 8, 0);
        c.due("KNOTS", c.x.many(4), 4);
    }

    // ---- the latest change

    // "Of the latest of put(), give(), graft() with STATUS 0", "7: none since the TREE was told"
    private static void latestChange(Check c) {
        c.fresh();
        for (int what : new int[] {-1, 2, MIN, MAX}) {
            c.refused("no TREE, and no what", c.x.anew(what), 1);
        }
        c.refused("no TREE", c.x.anew(0), 3);
        c.grammar(CHAIN);
        c.refused("no TREE", c.x.anew(1), 3);
        c.tree("a(e)");
        c.refused("none", c.x.anew(0), 7);
        c.refused("none", c.x.anew(1), 7);
        c.refused("no what", c.x.anew(2), 1);
        c.x.put(9, 0);
        c.x.put(0, -1);
        c.x.give(1, 0);
        c.x.graft(9, 0);
        c.graftFaultAt(0, 2, "a^");
        c.refused("none with STATUS 0", c.x.anew(0), 7);
        give(c, 0, 9, 0, 4, 4);
        c.x.put(9, 0);
        c.x.put(0, 10000);
        c.x.give(1, 0);
        c.x.graft(0, 1);
        c.graftFaultAt(1, 3, "^z");
        anew(c, 4, 4);
        put(c, 1, 0, 0, 0, 0);
        c.treeFaultAt(2, "a(e^");
        c.refused("a GRAMMAR with a FAULT", c.grammar("a(e"), 9);
        anew(c, 0, 0);
        put(c, 1, 1, 0, 2, 2);
        anew(c, 2, 2);
        c.due("another TREE", c.tree("a(e)"), 2);
        c.refused("none since", c.x.anew(0), 7);
        put(c, 1, 1, 0, 2, 2);
        c.due("another GRAMMAR", c.grammar(CHAIN), 3);
        c.refused("no TREE", c.x.anew(0), 3);
        c.tree("e");
        c.refused("none since", c.x.anew(1), 7);
    }

    // ---- texts of grafts

    private static void graftTexts(Check c) {
        plant(c, SHAPES, "a(c(e,a(e),e))");
        for (int k : new int[] {0, 1, 3, 5}) {
            for (String text : new String[] {"^!", "a(e^?", "e ^10000", "^abcdefghi"}) {
                c.graftFaultAt(k, 1, text);
            }
            for (String text : new String[] {"^", " ^", "^1", "^(", "^in", "a^", "a(^)", "a(e^", "a(e)^)", "a(e)^,e", "e ^e", "e^(e)",
                "e^;", "c(e,e^)"}) {
                c.graftFaultAt(k, 2, text);
            }
            for (String text : new String[] {"^x", "a(^s)", "c(e,^ee"}) {
                c.graftFaultAt(k, 3, text);
            }
        }
        c.due("the NODES stay", c.x.many(3), 6);
        c.due("and their numbers", c.x.node(4, 2), 3);
    }

    // "(of its SYMBOL ..)", "7 a PRODUCTION of another SYMBOL than must stand there (at its NAME)"
    private static void graftOfItsSymbol(Check c) {
        plant(c, SHAPES, "u(a(e),u(e,o))");
        for (int k : new int[] {1, 2, 4}) {
            c.graftFaultAt(k, 7, "^o");
            c.graftFaultAt(k, 7, "^u(!");
            c.graftFaultAt(k, 7, "a(^o)");
        }
        for (int k : new int[] {0, 3, 5}) {
            c.graftFaultAt(k, 7, "^e");
            c.graftFaultAt(k, 7, "u(^o,o)");
            c.graftFaultAt(k, 7, "u(e,^e)");
        }
        c.due("the NODES stay", c.x.many(3), 6);
        c.due("graft of t", c.graft(3, "o"), 4);
        c.due("graft of s", c.graft(1, "e"), 3);
        c.due("graft of the root", c.graft(0, "o"), 1);
        c.graftFaultAt(0, 7, "^e");
        // A TREE told has any SYMBOL, a GRAFT the one that is there.
        c.due("tree of s", c.tree("e"), 1);
        c.graftFaultAt(0, 7, "^o");
    }

    // "FAULT 6 counts all NODES of the new TREE"
    private static void fortyInAll(Check c) {
        String four = "c(e,e,e)";
        String thirteen = "c(" + four + "," + four + "," + four + ")";
        plant(c, SHAPES, "c(" + thirteen + "," + thirteen + ",e)");
        c.due("28 and one more for e", c.graft(27, "a(e)"), 29);
        // NODES ahead of it count, those behind it count, those that went don't.
        c.due("40 by the last", c.graft(27, thirteen), 40);
        c.graftFaultAt(39, 6, "a(^e)");
        c.graftFaultAt(38, 6, "a(^e)");
        c.graftFaultAt(1, 6, "a(" + thirteen.substring(0, thirteen.lastIndexOf('e')) + "^e)");
        c.due("as many again", c.graft(1, thirteen), 40);
        c.due("39", c.graft(2, "a(a(e))"), 39);
        c.due("40", c.graft(2, four), 40);
        c.graftFaultAt(2, 6, "c(e,e,a(^e))");
        c.graftFaultAt(2, 6, "c(e,a(e),^e)");
        c.graftFaultAt(2, 3, "c(e,e,a(^x))");
        c.graftFaultAt(2, 6, "c(e,e,a(^o))");
        c.due("the whole tree", c.graft(0, "c(" + thirteen + "," + thirteen + "," + thirteen + ")"), 40);
        c.graftFaultAt(0, 6, "c(" + thirteen + "," + thirteen + ",c(" + four + "," + four + ",c(e,e,a(^e))))");
        c.due("NODES", c.x.many(3), 40);
        c.due("one alone", c.graft(0, "e"), 1);
    }

    // "and how deep they are in it"
    private static void twelveInAll(Check c) {
        plant(c, SHAPES, deep(12));
        c.graftFaultAt(11, 6, "a(^e)");
        c.graftFaultAt(11, 6, "c(^e");
        c.graftFaultAt(10, 6, "a(a(^e))");
        c.graftFaultAt(0, 6, "a(".repeat(12) + "^e" + ")".repeat(12));
        c.graftFaultAt(1, 6, "a(".repeat(11) + "^e" + ")".repeat(11));
        c.graftFaultAt(11, 3, "a(^x)");
        c.graftFaultAt(11, 6, "a(^o)");
        c.due("in place of the deepest", c.graft(11, "e 1"), 12);
        c.due("in place of the one above it", c.graft(10, "a(e)"), 12);
        c.due("wider", c.graft(10, "c(e,e,e)"), 14);
        c.graftFaultAt(12, 6, "a(^e)");
        c.due("from the root's CHILD on", c.graft(1, deep(11)), 12);
        c.due("from the root on", c.graft(0, deep(12)), 12);
        c.due("the deepest", c.x.node(11, 8), 11);
        c.due("less deep", c.graft(5, "e"), 6);
        c.due("as deep as can be", c.graft(5, deep(7)), 12);
        c.graftFaultAt(5, 6, "a(".repeat(7) + "^e");
    }

    // "17; then for each INSTANCE (by NODES, then ATTRIBUTES) times 31 and its VALUE (ints)"
    private static void digests(Check c) {
        plant(c, "symbol s;symbol t in i out o;prod p:s t;prod q:t;rule q 0.o=num;rule p 1.i=num;", "p 2(q 3)");
        c.due("digest", c.x.digest(), (17 * 31 + 2) * 31 + 3);
        c.x.put(0, 0);
        c.due("digest", c.x.digest(), 17 * 31 * 31 + 3);
        c.tree("q 5");
        c.due("digest", c.x.digest(), 17 * 31 * 31 + 5);
        c.x.give(0, MIN);
        c.due("it wraps", c.x.digest(), (17 * 31 + MIN) * 31 + 5);
        // -1 as an answer: 17 * 31 * 31 + 31 * i + 5 is -1.
        c.x.give(0, solve());
        c.due("STATUS tells NONE from -1", c.x.digest(), -1);
    }

    private static int solve() {
        // 31 has an inverse among ints.
        int inverse = 1;
        for (int n = 0; n < 6; n++) {
            inverse *= 2 - 31 * inverse;
        }
        return (-1 - 5 - 17 * 31 * 31) * inverse;
    }
}
