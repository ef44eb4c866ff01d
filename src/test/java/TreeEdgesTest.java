/**
 * Terms 3 up to RUN, promises 17 to 23, sentence by sentence at its edges: a tree's text and its faults, how many nodes
 * and how deep, what rules are worth, knots and their turns, need and reach, runs, the longest row.
 */
public final class TreeEdgesTest {
    // One PRODUCTION of each number of CHILDREN: e none, a one, b two, c three; o of another SYMBOL.
    private static final String SHAPES = "symbol s;symbol t;prod e:s;prod a:s s;prod b:s s s;prod c:s s s s;prod o:t;"
            + "prod u:t s t;";
    // d goes down by one more each, v comes up; each NODE's num is added.
    private static final String CHAIN = "symbol s in d out v;prod e:s;prod a:s s;prod b:s s s;rule e 0.v=0.d+num;"
            + "rule a 1.d=0.d+1;rule a 0.v=1.v+num;rule b 1.d=0.d;rule b 2.d=1.v;rule b 0.v=2.v;";
    private static final int MIN = Integer.MIN_VALUE;
    private static final int MAX = Integer.MAX_VALUE;

    public static void main(String[] args) {
        Check c = new Check("TreeEdgesTest");
        tokens(c);
        places(c);
        ownNumbers(c);
        asManyChildren(c);
        rootOfAnySymbol(c);
        fortyNodes(c);
        twelveWithin(c);
        leastKind(c);
        numbered(c);
        treeInPlaceOfTree(c);
        noInstances(c);
        whatHasNoRule(c);
        intsWrap(c);
        lessMaxMin(c);
        secondIfTheFirstIsNot0(c);
        whoseNum(c);
        whatIsAKnot(c);
        unlikeKnots(c);
        turns(c);
        asTheyAreNow(c);
        unsettled(c);
        firstOfAKnot(c);
        largestKnot(c);
        needAndReach(c);
        runs(c);
        longest(c);
        whichNumbers(c);
        c.end();
    }

    private static void plant(Check c, String grammar, String tree) {
        c.fresh();
        c.grammar(grammar);
        c.due("tree of " + tree, c.tree(tree), nodes(tree));
    }

    // Each NODE has one NAME.
    private static int nodes(String tree) {
        return tree.replaceAll("[^a-z]+", " ").trim().split(" ").length;
    }

    private static String deep(int many) {
        return "a(".repeat(many - 1) + "e" + ")".repeat(many - 1);
    }

    /** A tree of 40 NODES, four within one another. */
    private static String forty() {
        String four = "c(e,e,e)";
        String thirteen = "c(" + four + "," + four + "," + four + ")";
        return "c(" + thirteen + "," + thirteen + "," + thirteen + ")";
    }

    // ---- texts

    // "FAULTS 1 to 3 as above"
    private static void tokens(Check c) {
        c.fresh();
        c.grammar(SHAPES);
        for (String text : new String[] {"^!", "^E", "^abcdefghi", "^\t", "e ^!", "e ^12345", "e 1 ^?", "a(^?)", "a(e^?",
            "a^[e]", "e ^00000", "a(e)^\0", "^" + (char) 128}) {
            c.treeFaultAt(1, text);
        }
        for (String text : new String[] {"^x", "^abcdefgh", "^s", "^ee", "a(^x)", "b(e,^x)", "a(a(^x", "^t(s)"}) {
            c.treeFaultAt(3, text);
        }
        c.due("no tree by now", c.x.many(3), 0);
        c.due("blanks between", c.tree(" \nb\n0012 ( e\n,\na 3(e ) )\n "), 4);
        c.due("no blanks", c.tree("b12(e,a3(e))"), 4);
        c.due("the number", c.x.node(2, 1), 3);
    }

    // "2 a TOKEN that can't stand there (the end: the text's length)"
    private static void places(Check c) {
        c.fresh();
        c.grammar(SHAPES);
        for (String text : new String[] {"^", " ^", "^1", "^(e)", "^,", "^)", "^;", "^symbol", "^prod", "^rule", "^in", "^out",
            "^num", "^max", "^min", "^if", "e^;", "e ^e", "e^,e", "e^.", "e 1 ^2", "e^=1", "e^)", "a^", "a 1^", "a ^e",
            "a^,e", "a(^", "a(^1)", "a(^(e))", "a(^,e)", "a(e^", "a(e 1^", "a(e ^e)", "a(e)^(e)", "a(e)^)", "a(e)^1",
            "a(e)^,", "a(e) ^e", "a(e^;", "a(e^.1)", "b(e,^", "b(e,^)", "b(e,^1)", "b(e ^e)", "b(e,^,e)",
            "a(^max)", "a(e^(e))", "a 1 ^40 e)", "a(e 1 ^41 ", "b(e 1 ^44 e)"}) {
            c.treeFaultAt(2, text);
        }
        c.due("no tree by now", c.x.many(3), 0);
    }

    // "[NUMBER]", "the NODE's own number (0 without)"
    private static void ownNumbers(Check c) {
        plant(c, SHAPES, "c 9999(e,e 0,e 0001)");
        int[] due = {9999, 0, 0, 1};
        for (int k = 0; k < due.length; k++) {
            c.due("own number", c.x.node(k, 1), due[k]);
        }
        plant(c, SHAPES, "e");
        c.due("none", c.x.node(0, 1), 0);
        plant(c, SHAPES, "e 9999");
        c.due("the greatest", c.x.node(0, 1), 9999);
        c.treeFaultAt(1, "e ^10000");
        c.due("it stays", c.x.node(0, 1), 9999);
    }

    // "its CHILDREN, as many as it has, of their SYMBOLS", "7 a PRODUCTION of another SYMBOL than must stand there"
    private static void asManyChildren(Check c) {
        c.fresh();
        c.grammar(SHAPES);
        for (String text : new String[] {"e^(e)", "e^()", "a^", "a(^)", "a(e^,e)", "b(e^)", "b(e,e^,e)", "c(e,e^)",
            "c(e,e,e^,e)", "c(e,e^", "c^;", "u(e^)", "u(e,o^,e)"}) {
            c.treeFaultAt(2, text);
        }
        for (String text : new String[] {"a(^o)", "b(^o,e)", "b(e,^o)", "c(e,e,^o)", "c(e,^u(e,o),e)", "u(^o,e)", "u(e,^e)",
            "u(e,^a(e))", "a(a(^u"}) {
            c.treeFaultAt(7, text);
        }
        for (String text : new String[] {"e", "a(e)", "b(e,e)", "c(e,e,e)", "o", "u(e,o)", "u(a(e),u(e,o))"}) {
            c.due("tree of " + text, c.tree(text), nodes(text));
        }
    }

    // "the root of any SYMBOL"
    private static void rootOfAnySymbol(Check c) {
        StringBuilder text = new StringBuilder();
        for (char s = 'a'; s <= 'h'; s++) {
            text.append("symbol ").append(s).append(" out v;prod ").append(s).append(':').append(s).append(";rule ").append(s)
                    .append(" 0.v=").append(s - 'a' + 1).append(';');
        }
        c.fresh();
        c.grammar(text.toString());
        for (int s = 0; s < 8; s++) {
            c.due("tree", c.tree(String.valueOf((char) ('a' + s))), 1);
            c.due("its PRODUCTION", c.x.node(0, 0), s);
            c.due("its VALUE", c.x.value(0, 0), s + 1);
        }
    }

    // "at most 40 NODES", "6 a 41st NODE .. (at its NAME)"
    private static void fortyNodes(Check c) {
        plant(c, SHAPES, forty());
        c.due("NODES", c.x.many(3), 40);
        c.due("the last one", c.x.node(39, 0), 0);
        c.refused("a 41st", c.x.node(40, 0), 4);
        c.due("the root has all", c.x.node(0, 7), 40);
        String all = forty();
        int last = all.lastIndexOf('e');
        c.treeFaultAt(6, all.substring(0, last) + "a(^e" + all.substring(last + 1) + ")");
        c.treeFaultAt(6, all.substring(0, last) + "a(^e");
        // A row of a's has 11, and a 41st comes wherever it stands.
        c.treeFaultAt(6, "c(" + deep(11) + "," + deep(11) + ",c(" + deep(10) + ",c(e,e,e),b(e,^e)))");
        c.due("39", c.tree("c(" + deep(11) + "," + deep(11) + ",c(" + deep(10) + ",c(e,e,e),e))"), 39);
        c.due("40", c.tree("c(" + deep(11) + "," + deep(11) + ",c(" + deep(10) + ",c(e,e,e),a(e)))"), 40);
    }

    // "12 within one another", "a 13th within one another (at its NAME)"
    private static void twelveWithin(Check c) {
        plant(c, SHAPES, deep(12));
        c.due("the deepest", c.x.node(11, 8), 11);
        c.treeFaultAt(6, "a(".repeat(12) + "^e" + ")".repeat(12));
        c.treeFaultAt(6, "a(".repeat(12) + "^a(");
        // In any of the CHILDREN, behind others that are whole.
        plant(c, SHAPES, "b(" + deep(11) + ",b(e," + deep(10) + "))");
        c.due("the deepest", c.x.node(23, 8), 11);
        c.treeFaultAt(6, "b(" + deep(11) + ",b(e," + "a(".repeat(10) + "^e");
        c.treeFaultAt(6, "b(" + "a(".repeat(11) + "^e");
    }

    // "(Of one TOKEN the least kind.)": 1 to 3 ahead of 6, 6 ahead of 7.
    private static void leastKind(Check c) {
        c.fresh();
        c.grammar(SHAPES);
        String over = forty().substring(0, forty().lastIndexOf('e')) + "a(";
        for (String head : new String[] {"a(".repeat(12), over}) {
            c.treeFaultAt(1, head + "^!");
            c.treeFaultAt(1, head + "^abcdefghi");
            c.treeFaultAt(2, head + "^)");
            c.treeFaultAt(2, head + "^7");
            c.treeFaultAt(2, head + "^rule");
            c.treeFaultAt(2, head + "^");
            c.treeFaultAt(3, head + "^x");
            c.treeFaultAt(6, head + "^o");
            c.treeFaultAt(6, head + "^e");
        }
        // The first along the text, whatever its kind.
        c.treeFaultAt(7, "b(^o,!)");
        c.treeFaultAt(3, "b(^x,o)");
        c.treeFaultAt(2, "b(e^)!");
    }

    // "NODES are numbered from the root (0) on, each ahead of its CHILDREN, these in their order with all below them."
    private static void numbered(Check c) {
        plant(c, SHAPES, "c(a(b(e,e)),e,b(a(e),e))");
        // 0 c, 1 a, 2 b, 3 e, 4 e, 5 e, 6 b, 7 a, 8 e, 9 e: its PRODUCTION, PARENT, CHILDREN, size and depth.
        int[][] due = {{3, -1, 3, 1, 5, 6, 10, 0}, {1, 0, 1, 2, -1, -1, 4, 1}, {2, 1, 2, 3, 4, -1, 3, 2},
            {0, 2, 0, -1, -1, -1, 1, 3}, {0, 2, 0, -1, -1, -1, 1, 3}, {0, 0, 0, -1, -1, -1, 1, 1},
            {2, 0, 2, 7, 9, -1, 4, 1}, {1, 6, 1, 8, -1, -1, 2, 2}, {0, 7, 0, -1, -1, -1, 1, 3}, {0, 6, 0, -1, -1, -1, 1, 2}};
        int[] whats = {0, 2, 3, 4, 5, 6, 7, 8};
        for (int k = 0; k < due.length; k++) {
            for (int n = 0; n < whats.length; n++) {
                if (due[k][n] == -1 && whats[n] != 2) {
                    c.refused("node(" + k + ", " + whats[n] + ")", c.x.node(k, whats[n]), 7);
                } else {
                    c.due("node(" + k + ", " + whats[n] + ")", c.x.node(k, whats[n]), due[k][n]);
                }
            }
        }
    }

    // "are a TREE (nothing GIVEN then)", and with STATUS 9 the one ahead of it stays.
    private static void treeInPlaceOfTree(Check c) {
        plant(c, CHAIN, "a(e)");
        for (int times = 0; times < 4; times++) {
            c.due("nothing GIVEN", c.x.value(0, 0), 0);
            c.due("give", c.x.give(0, 5), 0);
            c.due("VALUE", c.x.value(0, 0), 5);
            c.treeFaultAt(2, "a(e^");
            c.due("it stays GIVEN", c.x.value(0, 0), 5);
            c.due("its NODES stay", c.x.many(3), 2);
            c.due("another", c.tree("a(e)"), 2);
        }
        c.due("nothing GIVEN", c.x.give(0, 1), 0);
        c.due("a greater one", c.tree(deep(12)), 12);
        c.due("a smaller one", c.tree("e"), 1);
        c.refused("no NODE 1 by now", c.x.value(1, 0), 4);
        c.due("another GRAMMAR", c.grammar(CHAIN), 3);
        c.refused("no TREE then", c.x.value(0, 0), 3);
        c.due("no NODES", c.x.many(3), 0);
        c.due("tree", c.tree("e"), 1);
        c.due("nothing GIVEN", c.x.value(0, 0), 0);
    }

    // ---- values

    private static void noInstances(Check c) {
        plant(c, SHAPES, forty());
        c.due("digest", c.x.digest(), 17);
        c.due("KNOTS", c.x.many(4), 0);
        c.due("longest", c.x.longest(), 0);
        c.refused("no ATTRIBUTE", c.x.value(0, 0), 4);
        // 320 of them, each 0.
        String full = SHAPES.replace("symbol s;", "symbol s in a b c d out f g h i;");
        plant(c, full, forty());
        int sum = 17;
        for (int n = 0; n < 320; n++) {
            sum *= 31;
        }
        c.due("digest", c.x.digest(), sum);
        c.due("longest", c.x.longest(), 1);
        c.due("the last one", c.x.value(39, 7), 0);
        c.refused("no more", c.x.value(39, 8), 4);
        c.due("give", c.x.give(3, -1), 0);
        int other = 17;
        for (int n = 0; n < 320; n++) {
            other = 31 * other + (n == 3 ? -1 : 0);
        }
        c.due("digest", c.x.digest(), other);
    }

    // "what has none is 0", "the root's ins are GIVEN (0 at first)"
    private static void whatHasNoRule(Check c) {
        // Told ahead: the same OCCS of GRAMMARS that went have other RULES, which ask num, and others.
        String asks = "symbol s in i out o u;prod p:s s;prod q:s;rule p 0.o=num+1.o+7;rule p 1.i=num+0.u;rule q 0.o=num+0.i+5;"
                + "rule q 0.u=0.o;";
        c.fresh();
        c.grammar(asks);
        c.grammar(asks);
        c.grammar("symbol s in i out o u;prod p:s s;prod q:s;");
        c.tree("p 4(q 9)");
        for (int k = 0; k < 2; k++) {
            for (int a = 0; a < 3; a++) {
                c.due("value(" + k + ", " + a + ")", c.x.value(k, a), 0);
                c.due("it hangs on nothing", c.x.span(k, a, 0), 1);
                c.due("nothing hangs on it", c.x.span(k, a, 1), 1);
            }
        }
        c.due("longest", c.x.longest(), 1);
        c.due("put", c.x.put(1, 3), 9);
        c.due("nothing asks it", c.x.anew(0), 0);
    }

    // The VALUE of an E, the root's ins GIVEN.
    private static int worth(Check c, String e, int a, int b) {
        c.fresh();
        c.grammar("symbol s in a b out v;prod p:s;rule p 0.v=" + e + ";");
        c.tree("p 9");
        c.x.give(0, a);
        c.x.give(1, b);
        return c.x.value(0, 2);
    }

    // "ints wrap"
    private static void intsWrap(Check c) {
        c.due("MAX + 1", worth(c, "0.a+1", MAX, 0), MIN);
        c.due("MAX + MAX", worth(c, "0.a+0.b", MAX, MAX), -2);
        c.due("MIN + MIN", worth(c, "0.a+0.b", MIN, MIN), 0);
        c.due("MIN - 1", worth(c, "0.a-1", MIN, 0), MAX);
        c.due("0 - MIN", worth(c, "0-0.a", MIN, 0), MIN);
        c.due("MAX - MIN", worth(c, "0.a-0.b", MAX, MIN), -1);
        c.due("MAX * 2", worth(c, "0.a*2", MAX, 0), -2);
        c.due("MIN * -1", worth(c, "0.a*0.b", MIN, -1), MIN);
        c.due("65536 * 65536", worth(c, "0.a*0.b", 65536, 65536), 0);
        c.due("65536 * 32768", worth(c, "0.a*0.b", 65536, 32768), MIN);
        c.due("46341 * 46341", worth(c, "0.a*0.a", 46341, 0), -2147479015);
        c.due("24 times", worth(c, "9999" + "*9999".repeat(23), 0, 0), power(9999, 24));
        c.due("and back", worth(c, "0.a+1-1", MAX, 0), MAX);
        c.due("digest of MIN and MAX", digestOf(c, MIN, MAX), ((17 * 31 + MIN) * 31 + MAX) * 31);
    }

    private static int power(int n, int times) {
        int product = 1;
        for (int i = 0; i < times; i++) {
            product *= n;
        }
        return product;
    }

    private static int digestOf(Check c, int a, int b) {
        c.fresh();
        c.grammar("symbol s in a b out v;prod p:s;");
        c.tree("p");
        c.x.give(0, a);
        c.x.give(1, b);
        return c.x.digest();
    }

    // "OP: + - * | & (bits) < (1 or 0) max min", "from the left"
    private static void lessMaxMin(Check c) {
        int[][] pairs = {{0, 0}, {0, 1}, {1, 0}, {-1, 0}, {0, -1}, {MIN, MAX}, {MAX, MIN}, {MIN, MIN}, {MIN, 0}, {0, MIN},
            {MAX, -1}, {-1, MAX}, {5, 3}, {6, -7}};
        for (int[] p : pairs) {
            int a = p[0];
            int b = p[1];
            String of = " of " + a + " and " + b;
            c.due("less" + of, worth(c, "0.a<0.b", a, b), a < b ? 1 : 0);
            c.due("max" + of, worth(c, "0.a max 0.b", a, b), a < b ? b : a);
            c.due("min" + of, worth(c, "0.a min 0.b", a, b), a < b ? a : b);
            c.due("or" + of, worth(c, "0.a|0.b", a, b), a | b);
            c.due("and" + of, worth(c, "0.a&0.b", a, b), a & b);
            c.due("sum" + of, worth(c, "0.a+0.b", a, b), a + b);
            c.due("difference" + of, worth(c, "0.a-0.b", a, b), a - b);
            c.due("product" + of, worth(c, "0.a*0.b", a, b), a * b);
        }
        c.due("no OP ahead of another", worth(c, "1+2*3", 0, 0), 9);
        c.due("no OP ahead of another", worth(c, "8|1&2", 0, 0), 0);
        c.due("no OP ahead of another", worth(c, "1<2+3", 0, 0), 4);
        c.due("no OP ahead of another", worth(c, "9-4 max 3-2 min 9*2", 0, 0), 6);
        c.due("less twice", worth(c, "3<2<1", 0, 0), 1);
        c.due("six brackets", worth(c, "9-(8-(7-(6-(5-(4-(3-2))))))", 0, 0), 9 - (8 - (7 - (6 - (5 - (4 - 1))))));
        // As much as can be waiting: six brackets of ifs, each in the third place, behind something to be joined.
        c.due("six ifs", worth(c, "1+if(0,2,3+if(0,4,5+if(0,6,7+if(0,8,9+if(0,1,2+if(0,3,4+5))))))", 0, 0), 36);
        c.due("six ifs, in the first place", worth(c, "if(if(if(if(if(if(1,1,0),1,0),1,0),1,0),1,0),7,8)", 0, 0), 7);
        c.due("six ifs, in the second place", worth(c, "1+if(1,2+if(1,3+if(1,4+if(1,5+if(1,6+if(1,7,0),0),0),0),0),0)", 0, 0),
                28);
    }

    // "if ( E , E , E ) (the second if the first isn't 0, else the third; all three are asked)"
    private static void secondIfTheFirstIsNot0(Check c) {
        for (int first : new int[] {1, 2, -1, MIN, MAX, 9999}) {
            c.due("if(" + first + ")", worth(c, "if(0.a,5,6)", first, 0), 5);
        }
        c.due("if(0)", worth(c, "if(0.a,5,6)", 0, 0), 6);
        c.due("if(wrapped to 0)", worth(c, "if(0.a+0.a,5,6)", MIN, 0), 6);
        c.due("if(1 < 0)", worth(c, "if(0.a<0.b,5,6)", 1, 0), 6);
        // Each of the three is asked, taken or not: also one that is in a circle.
        String text = "symbol s in a b d out v;prod p:s;rule p 0.v=if(0.a,0.b,0.d);";
        plant(c, text, "p");
        for (int a = 0; a < 3; a++) {
            c.due("hangs on it", c.x.hangs(0, 3, a, 0), 1);
            c.due("reach of it", c.x.span(0, a, 1), 2);
        }
        c.due("need", c.x.span(0, 3, 0), 4);
        plant(c, "symbol s out v;prod p:s;rule p 0.v=if(1,7,0.v);", "p");
        c.due("a KNOT by what is not taken", c.x.many(4), 1);
        c.due("VALUE", c.x.value(0, 0), 7);
        c.due("TURNS", c.x.knot(0, 0, 1), 2);
    }

    // "num (the NODE's own number)": of the NODE of which the PRODUCTION has the RULE.
    private static void whoseNum(Check c) {
        plant(c, "symbol s in d out v;prod a:s s s;prod e:s;rule a 1.d=num;rule a 2.d=num*10;rule e 0.v=num;rule a 0.v=num;",
                "a 3(e 5,a 7(e,e 9999))");
        int[][] due = {{0, 3}, {3, 5}, {30, 7}, {7, 0}, {70, 9999}};
        for (int k = 0; k < due.length; k++) {
            c.due("d of " + k, c.x.value(k, 0), due[k][0]);
            c.due("v of " + k, c.x.value(k, 1), due[k][1]);
        }
    }

    // ---- knots

    // "INSTANCES that all hang on one another, over others in between, or one that hangs on itself"
    private static void whatIsAKnot(Check c) {
        plant(c, "symbol s in i out u v w x;prod p:s;rule p 0.u=0.u;rule p 0.v=0.w+0.i;rule p 0.w=0.v;rule p 0.x=0.v+0.u;",
                "p");
        c.due("KNOTS", c.x.many(4), 2);
        int[] sizes = {0, 1, 2, 2, 0};
        for (int a = 0; a < sizes.length; a++) {
            if (sizes[a] == 0) {
                for (int what = 0; what < 5; what++) {
                    c.refused("in none", c.x.knot(0, a, what), 7);
                }
            } else {
                c.due("how many", c.x.knot(0, a, 0), sizes[a]);
            }
        }
        // A CIRCLE that may be, but that this tree has not; and one that it has.
        String text = "symbol s out v;symbol x in a c out b d;prod p:s x;prod l:x;prod r:x;prod k:x;rule p 1.a=1.d;"
                + "rule p 1.c=1.b;rule l 0.b=0.a;rule r 0.d=0.c;rule k 0.b=0.a;rule k 0.d=0.c;";
        plant(c, text, "p(l)");
        c.due("no KNOT", c.x.many(4), 0);
        c.due("in one row", c.x.longest(), 4);
        plant(c, text, "p(k)");
        c.due("one KNOT", c.x.many(4), 1);
        c.due("of four", c.x.knot(1, 2, 0), 4);
        c.due("none besides", c.x.longest(), 1);
    }

    // One KNOT hangs on another: they are two. A CHAIN of eleven, each of an in and an out.
    private static void unlikeKnots(Check c) {
        plant(c, "symbol s in i out o;prod e:s;rule e 0.o=0.i;prod a:s s;rule a 1.i=1.o|num;rule a 0.o=0.i|1.o;",
                deep(12).replace("a(", "a 1(").replaceFirst("a 1", "a 4"));
        c.due("KNOTS", c.x.many(4), 11);
        for (int k = 1; k <= 11; k++) {
            c.due("in and out of " + k, c.x.knot(k, 0, 0), 2);
            c.due("first NODE", c.x.knot(k, 1, 3), k);
            c.due("TURNS", c.x.knot(k, 1, 1), k == 1 ? 3 : 2);
            c.due("VALUE", c.x.value(k, 0), k == 1 ? 5 : 1);
        }
        c.refused("the root's are in none", c.x.knot(0, 1, 0), 7);
        c.due("VALUE", c.x.value(0, 1), 5);
    }

    // "TURNS are done till one changes nothing, that one too, but 64 at most"
    private static void turns(Check c) {
        int[][] due = {{0, 1, 0}, {1, 2, 0}, {2, 3, 0}, {62, 63, 0}, {63, 64, 0}, {64, 64, 1}, {65, 64, 1}, {9999, 64, 1}};
        c.fresh();
        c.grammar("symbol s out v w;prod p:s;rule p 0.v=0.v+1 min num;rule p 0.w=0.v;");
        for (int[] d : due) {
            c.due("tree", c.tree("p " + d[0]), 1);
            c.due("TURNS up to " + d[0], c.x.knot(0, 0, 1), d[1]);
            c.due("UNSETTLED", c.x.knot(0, 0, 2), d[2]);
            c.due("VALUE", c.x.value(0, 0), Math.min(64, d[0]));
            c.due("what hangs on it", c.x.value(0, 1), Math.min(64, d[0]));
        }
        // As long as any of its INSTANCES is another one: the first of them, the last of them.
        c.grammar("symbol s out v w;prod p:s;rule p 0.v=0.v+1 min num+0.w;rule p 0.w=0.v&0;");
        c.tree("p 5");
        c.due("two in it", c.x.knot(0, 1, 0), 2);
        c.due("TURNS", c.x.knot(0, 1, 1), 6);
        c.due("VALUE", c.x.value(0, 0), 5);
        c.grammar("symbol s out v w;prod p:s;rule p 0.v=0.w&0;rule p 0.w=0.w+1+0.v min num;");
        c.tree("p 5");
        c.due("two in it", c.x.knot(0, 1, 0), 2);
        c.due("TURNS", c.x.knot(0, 0, 1), 6);
        c.due("VALUE", c.x.value(0, 1), 5);
    }

    // "of each INSTANCE of it (by NODES, then ATTRIBUTES) the RULE, by VALUES as they are now"
    private static void asTheyAreNow(Check c) {
        // By ATTRIBUTES: w is worked out behind v in the same TURN.
        plant(c, "symbol s out v w;prod p:s;rule p 0.v=0.w+1 min 5;rule p 0.w=0.v;", "p");
        c.due("TURNS", c.x.knot(0, 0, 1), 6);
        plant(c, "symbol s out v w;prod p:s;rule p 0.w=0.v+1 min 5;rule p 0.v=0.w;", "p");
        c.due("TURNS", c.x.knot(0, 0, 1), 7);
        // By NODES: the root's out ahead of the CHILD's in, that ahead of its out.
        String text = "symbol s out v;symbol x in a out b;prod p:s x;prod n:x;rule n 0.b=0.a+2 min 9;rule p 1.a=0.v*2;rule p 0.v=1.b;";
        plant(c, text, "p(n)");
        // v, a, b: 0 0 2, 2 4 6, 6 12 9, 9 18 9, and once more.
        c.due("three in it", c.x.knot(1, 1, 0), 3);
        c.due("TURNS", c.x.knot(0, 0, 1), 5);
        c.due("v", c.x.value(0, 0), 9);
        c.due("a", c.x.value(1, 0), 18);
        c.due("b", c.x.value(1, 1), 9);
        // "of a KNOT: all are 0" at first, whatever they were.
        plant(c, "symbol s out v;prod p:s;rule p 0.v=0.v max num;", "p 9");
        for (int number = 8; number >= 0; number--) {
            c.due("put", c.x.put(0, number), number + 1);
            c.due("VALUE", c.x.value(0, 0), number);
        }
    }

    // "(then it is UNSETTLED, its VALUES are as they are)"
    private static void unsettled(Check c) {
        plant(c, "symbol s in i out v w;prod p:s;rule p 0.v=0.v*3+1;rule p 0.w=0.v+0.i;", "p");
        int v = 0;
        for (int turn = 0; turn < 64; turn++) {
            v = v * 3 + 1;
        }
        c.due("as it is", c.x.value(0, 1), v);
        c.due("by it", c.x.value(0, 2), v);
        c.due("TURNS", c.x.knot(0, 1, 1), 64);
        c.due("UNSETTLED", c.x.knot(0, 1, 2), 1);
        // One that swings: 1 after odd TURNS, 0 after even ones.
        plant(c, "symbol s out v;prod p:s;rule p 0.v=1-0.v;", "p");
        c.due("as it is", c.x.value(0, 0), 0);
        c.due("UNSETTLED", c.x.knot(0, 0, 2), 1);
        // A settled one besides.
        plant(c, "symbol s out v w;prod p:s;rule p 0.v=1-0.v;rule p 0.w=0.w;", "p");
        c.due("UNSETTLED", c.x.knot(0, 0, 2), 1);
        c.due("settled", c.x.knot(0, 1, 2), 0);
        c.due("its one TURN", c.x.knot(0, 1, 1), 1);
    }

    // "3: its first NODE, 4: its first INSTANCE's ATTRIBUTE"
    private static void firstOfAKnot(Check c) {
        // The KNOT is the root's w, the second CHILD's j and o; others come ahead of them.
        plant(c, "symbol s out v w;symbol x in i j out o;prod p:s x x;prod n:x;rule p 0.w=2.o;rule p 2.j=0.w;rule n 0.o=0.j;",
                "p(n,n)");
        for (int[] at : new int[][] {{0, 1}, {2, 1}, {2, 2}}) {
            c.due("how many", c.x.knot(at[0], at[1], 0), 3);
            c.due("first NODE", c.x.knot(at[0], at[1], 3), 0);
            c.due("first ATTRIBUTE", c.x.knot(at[0], at[1], 4), 1);
        }
        plant(c, "symbol s;symbol x in i j out o u;prod p:s x x;prod n:x;rule p 2.j=2.u;rule n 0.u=0.j;", "p(n,n)");
        c.due("first NODE", c.x.knot(2, 3, 3), 2);
        c.due("first ATTRIBUTE", c.x.knot(2, 3, 4), 1);
        c.refused("the first CHILD's", c.x.knot(1, 3, 3), 7);
    }

    // All INSTANCES but the GIVEN ones in one KNOT: 316.
    private static void largestKnot(Check c) {
        StringBuilder text = new StringBuilder("symbol s in a b c d out f g h i;prod e:s;prod c:s s s s;rule e 0.f=0.a+0.b+0.c+0.d;"
                + "rule e 0.g=0.f;rule e 0.h=0.g;rule e 0.i=0.h;rule c 0.f=1.i+2.i+3.i+0.a+0.b+0.c+0.d;rule c 0.g=0.f;rule c 0.h=0.g;"
                + "rule c 0.i=0.h;");
        for (int child = 1; child <= 3; child++) {
            for (char in : "abcd".toCharArray()) {
                text.append("rule c ").append(child).append('.').append(in).append("=0.i;");
            }
        }
        plant(c, text.toString(), forty());
        c.due("KNOTS", c.x.many(4), 1);
        c.due("how many", c.x.knot(39, 7, 0), 316);
        c.due("first NODE", c.x.knot(39, 7, 3), 0);
        c.due("first ATTRIBUTE", c.x.knot(39, 7, 4), 4);
        c.due("TURNS", c.x.knot(39, 7, 1), 1);
        c.due("need, with the GIVEN ones", c.x.span(20, 0, 0), 320);
        c.due("reach, without them", c.x.span(20, 0, 1), 316);
        c.due("need of a GIVEN one", c.x.span(0, 3, 0), 1);
        c.due("reach of a GIVEN one", c.x.span(0, 3, 1), 317);
        c.due("the GIVEN ones are in none", c.x.longest(), 1);
    }

    // "NEED of an INSTANCE: it, and all it hangs on, over others in between; REACH: it, and all that hang on it likewise."
    private static void needAndReach(Check c) {
        plant(c, CHAIN, "b(a(e),a(a(e)))");
        // 0 b, 1 a, 2 e, 3 a, 4 a, 5 e
        int[][] need = {{1, 14}, {2, 6}, {3, 4}, {7, 13}, {8, 12}, {9, 10}};
        int[][] reach = {{14, 1}, {13, 8}, {11, 9}, {7, 2}, {6, 3}, {5, 4}};
        for (int k = 0; k < need.length; k++) {
            for (int a = 0; a < 2; a++) {
                c.due("need of " + k + "." + a, c.x.span(k, a, 0), shown(k, a, true));
                c.due("reach of " + k + "." + a, c.x.span(k, a, 1), shown(k, a, false));
            }
        }
        c.due("longest", c.x.longest(), 12);
        // It alone.
        plant(c, "symbol s in i out v w;prod p:s;rule p 0.v=0.w;", "p");
        c.due("need of what hangs on nothing", c.x.span(0, 0, 0), 1);
        c.due("reach of what nothing hangs on", c.x.span(0, 0, 1), 1);
        c.due("need", c.x.span(0, 1, 0), 2);
        c.due("reach", c.x.span(0, 1, 1), 1);
        c.due("need", c.x.span(0, 2, 0), 1);
        c.due("reach", c.x.span(0, 2, 1), 2);
        // All of them: 80, in one row.
        plant(c, CHAIN, "b(b(b(" + deep(9) + ",e)," + deep(9) + "),b(" + deep(9) + ",b(" + "a(e),a(e))))");
        c.due("NODES", c.x.many(3), 37);
        c.due("need of the root's v", c.x.span(0, 1, 0), 74);
        c.due("reach of the root's d", c.x.span(0, 0, 1), 74);
    }

    // In CHAIN each INSTANCE but v of b hangs on the one that a walk along the leaves meets ahead of it.
    private static int shown(int k, int a, boolean need) {
        // d0 d1 d2 v2 v1 d3 d4 d5 v5 v4 v3 v0
        int[][] places = {{0, 11}, {1, 4}, {2, 3}, {5, 10}, {6, 9}, {7, 8}};
        return need ? places[k][a] + 1 : 12 - places[k][a];
    }

    // ---- runs and rows

    // "how many VISITS of NODES there are, the root's too, how many RULES are worked out"
    private static void runs(Check c) {
        run(c, "symbol s;prod e:s;", "e", 1, 0);
        run(c, SHAPES, forty(), 40, 0);
        run(c, CHAIN, "e", 1, 1);
        run(c, CHAIN, deep(12), 12, 23);
        // "all its VISITS, one behind the other": five of each; of four outs and, for each CHILD, four ins.
        String five = "symbol s in a b c d out f g h i;prod e:s;rule e 0.g=0.a;rule e 0.h=0.b;rule e 0.i=0.c;prod c:s s s s;"
                + "rule c 1.a=1.f;rule c 1.b=1.g;rule c 1.c=1.h;rule c 1.d=1.i;";
        run(c, five, "e", 5, 4);
        run(c, five, "c(e,e,e)", 20, 28);
        run(c, five, forty(), 200, 316);
        // "(of OCCS without a RULE, too)"
        run(c, "symbol s in i out o;prod e:s;prod a:s s;", deep(12), 12, 23);
        // A VISIT alone of an out, then one of the in.
        String two = "symbol s;symbol x in a out b;prod n:x;prod m:x x;prod p:s x;rule p 1.a=1.b;";
        run(c, two, "p(n)", 3, 2);
        run(c, two, "p(m(m(n)))", 7, 6);
        run(c, two, "m(n)", 4, 3);
        // Of another GRAMMAR, in place of that.
        for (int times = 0; times < 2; times++) {
            c.grammar(CHAIN);
            c.tree("b(e,e)");
            c.due("VISITS", c.x.run(0), 3);
            c.due("RULES", c.x.run(1), 5);
        }
        c.fresh();
        c.grammar("symbol s out v;prod p:s;rule p 0.v=0.v;");
        c.tree("p");
        c.refused("not ORDERED", c.x.run(0), 5);
        c.refused("not ORDERED", c.x.run(1), 5);
        c.refused("no what", c.x.run(2), 1);
    }

    private static void run(Check c, String grammar, String tree, int visits, int rules) {
        plant(c, grammar, tree);
        c.due("VISITS", c.x.run(0), visits);
        c.due("RULES", c.x.run(1), rules);
        // As often as it is asked.
        c.due("VISITS", c.x.run(0), visits);
        c.due("ordered", c.x.ordered(0), 1);
    }

    // "of those that are in no KNOT (0 without any)"
    private static void longest(Check c) {
        plant(c, "symbol s;prod p:s;", "p");
        c.due("no INSTANCES", c.x.longest(), 0);
        plant(c, "symbol s out v;prod p:s;rule p 0.v=0.v;", "p");
        c.due("all in a KNOT", c.x.longest(), 0);
        plant(c, "symbol s out v;prod p:s;", "p");
        c.due("one alone", c.x.longest(), 1);
        plant(c, CHAIN, deep(12));
        c.due("twelve down, twelve up", c.x.longest(), 24);
        plant(c, "symbol s in i out u v w x;prod p:s;rule p 0.u=0.i;rule p 0.v=0.u+0.w;rule p 0.w=0.v+0.u;rule p 0.x=0.w;", "p");
        c.due("two ahead of the KNOT", c.x.longest(), 2);
        plant(c, "symbol s in i out u v w x;prod p:s;rule p 0.u=0.u;rule p 0.v=0.u;rule p 0.w=0.v;rule p 0.x=0.w+0.i;", "p");
        c.due("three behind the KNOT", c.x.longest(), 3);
        // The longer of two ways, whichever comes first.
        plant(c, "symbol s in i out u v w x;prod p:s;rule p 0.u=0.i;rule p 0.v=0.u;rule p 0.w=0.i+0.v;rule p 0.x=0.w+0.i;", "p");
        c.due("the longer way", c.x.longest(), 5);
    }

    // The last one that is there, the first that isn't: of NODES, ATTRIBUTES, whats.
    private static void whichNumbers(Check c) {
        plant(c, "symbol s in i out v;symbol t;prod p:s s;prod q:s;prod r:t;rule p 1.i=1.v;rule q 0.v=0.i;", "p(q)");
        c.due("the last VALUE", c.x.value(1, 1), 0);
        c.due("the last NODE's PRODUCTION", c.x.node(1, 0), 1);
        for (int k : new int[] {2, 39, 40, -1, MIN, MAX}) {
            c.refused("value", c.x.value(k, 0), 4);
            c.refused("node", c.x.node(k, 0), 4);
            c.refused("node", c.x.node(k, 6), 4);
            c.refused("knot", c.x.knot(k, 0, 0), 4);
            c.refused("span", c.x.span(k, 0, 0), 4);
        }
        for (int a : new int[] {2, 7, 8, -1, MIN, MAX}) {
            c.refused("value", c.x.value(0, a), 4);
            c.refused("value", c.x.value(1, a), 4);
            c.refused("knot", c.x.knot(1, a, 0), 4);
            c.refused("span", c.x.span(1, a, 1), 4);
        }
        for (int what : new int[] {-1, MIN, MAX}) {
            c.refused("many", c.x.many(what), 1);
            c.refused("node", c.x.node(0, what), 1);
            c.refused("knot", c.x.knot(1, 0, what), 1);
            c.refused("span", c.x.span(1, 0, what), 1);
            c.refused("run", c.x.run(what), 1);
        }
        c.refused("many(5)", c.x.many(5), 1);
        c.refused("node(0, 9)", c.x.node(0, 9), 1);
        c.refused("knot(1, 0, 5)", c.x.knot(1, 0, 5), 1);
        c.refused("span(1, 0, 2)", c.x.span(1, 0, 2), 1);
        c.refused("run(2)", c.x.run(2), 1);
        c.due("the last what of knot()", c.x.knot(1, 1, 4), 0);
        c.due("the last what of node()", c.x.node(1, 8), 1);
        // "STATUS tells NONE from -1"
        c.due("the root has no PARENT", c.x.node(0, 2), -1);
        c.tree("r");
        c.refused("no ATTRIBUTE at all", c.x.value(0, 0), 4);
    }
}
