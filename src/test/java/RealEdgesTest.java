/**
 * Terms 2, promises 15 and 16, sentence by sentence at its edges: shades, the rounds in which they are found, circles
 * that some tree has, and how many shades are too many.
 */
public final class RealEdgesTest {
    private static final String[] ORDERS = {"xyz", "xzy", "yxz", "yzx", "zxy", "zyx"};

    public static void main(String[] args) {
        Check c = new Check("RealEdgesTest");
        whichWhat(c);
        roundOne(c);
        rootsOutsOnIns(c);
        shadeOverEachChild(c);
        eachWithEach(c);
        newAtOnePosition(c);
        circleAtAnyOcc(c);
        levels(c);
        roundThatBringsNone(c);
        shadesInAllThen(c);
        circlesOrNot(c);
        twelveShades(c);
        moreByThatRound(c);
        anotherGrammar(c);
        c.end();
    }

    // LEVELS 0: no CIRCLE is REAL.
    private static void real(Check c, String text, int levels, int rounds, int shades) {
        c.fresh();
        c.grammar(text);
        c.due("real(0) of " + text, c.x.real(0), levels > 0 ? 1 : 0);
        if (levels > 0) {
            c.due("real(1) of " + text, c.x.real(1), levels);
        } else {
            c.refused("real(1) of " + text, c.x.real(1), 7);
        }
        c.due("real(2) of " + text, c.x.real(2), rounds);
        c.due("real(3) of " + text, c.x.real(3), shades);
    }

    private static void shades(Check c, int... due) {
        for (int s = 0; s < due.length; s++) {
            c.due("shades(" + s + ")", c.x.shades(s), due[s]);
        }
        c.refused("shades(" + due.length + ")", c.x.shades(due.length), 4);
    }

    private static void more(Check c, String text, int symbols) {
        c.fresh();
        c.grammar(text);
        for (int what = 0; what < 4; what++) {
            c.refused("real(" + what + ") of " + text, c.x.real(what), 6);
        }
        c.refused("real(4) of " + text, c.x.real(4), 1);
        for (int s = 0; s < symbols; s++) {
            c.refused("shades(" + s + ") of " + text, c.x.shades(s), 6);
        }
        c.refused("shades(" + symbols + ") of " + text, c.x.shades(symbols), 4);
    }

    // "(1; 2; 6 ..; 7 of 1 ..)"
    private static void whichWhat(Check c) {
        int[] wrong = {-1, 4, Integer.MIN_VALUE, Integer.MAX_VALUE};
        c.fresh();
        for (int what : wrong) {
            c.refused("no GRAMMAR, and no what", c.x.real(what), 1);
        }
        for (int what = 0; what < 4; what++) {
            c.refused("no GRAMMAR", c.x.real(what), 2);
        }
        c.grammar("symbol s;");
        for (int what : wrong) {
            c.refused("no what", c.x.real(what), 1);
        }
        c.refused("none is REAL", c.x.real(1), 7);
    }

    // "ROUND 1: SHADES of all PRODUCTIONS without CHILDREN"
    private static void roundOne(Check c) {
        real(c, "symbol s;", 0, 1, 0);
        shades(c, 0);
        real(c, "symbol s;prod p:s;", 0, 2, 1);
        shades(c, 1);
        // No tree is whole without them.
        real(c, "symbol s out v;prod p:s s;rule p 0.v=0.v;", 0, 1, 0);
        shades(c, 0);
        // Of all of them: unlike SHADES of one SYMBOL, like ones of two SYMBOLS.
        real(c, "symbol x in a out b;symbol y in a out b;prod p:x;prod q:x;rule q 0.b=0.a;prod r:y;prod t:x;", 0, 2, 3);
        shades(c, 2, 1);
    }

    // "what a tree makes its root's outs hang on of its ins, is its SHADE"
    private static void rootsOutsOnIns(Check c) {
        String x = "symbol x in a b c d out e f g h;";
        // The same by other RULES, over other outs, or of more PARTS, is no other SHADE.
        real(c, x + "prod p:x;rule p 0.e=0.a;rule p 0.f=0.e;prod q:x;rule q 0.e=0.a+0.a+num;rule q 0.f=if(0.e,1,2);"
                + "prod r:x;rule r 0.e=0.a;rule r 0.f=0.a;", 0, 2, 1);
        // Each out and each in counts.
        StringBuilder text = new StringBuilder(x + "prod z:x;");
        String outs = "efgh";
        String ins = "abcd";
        for (int n = 0; n < 4; n++) {
            for (int m = n; m < n + 2; m++) {
                String p = "p" + ins.charAt(n) + ins.charAt(m % 4);
                text.append("prod ").append(p).append(":x;rule ").append(p).append(" 0.").append(outs.charAt(n))
                        .append("=0.").append(ins.charAt(m % 4)).append(';');
            }
        }
        real(c, text.toString(), 0, 2, 9);
        shades(c, 9);
        // Of four outs and one in, of one out and four ins: h on a, g on a, then none, as m has no RULE of h.
        String few = "symbol s;symbol x in a out e f g h;prod n:x;rule n 0.h=0.a;prod m:x x;rule m 1.a=0.a;rule m 0.g=1.h;";
        real(c, few, 0, 4, 3);
        real(c, few + "prod p:s x;rule p 1.a=1.h;", 2, 2, 3);
        real(c, few + "prod p:s x;rule p 1.a=1.g;", 3, 3, 4);
        real(c, few + "prod p:s x;rule p 1.a=1.f;", 0, 4, 4);
        String many = "symbol s;symbol x in a b c d out e;prod n:x;rule n 0.e=0.d;prod m:x x;rule m 1.d=0.c;rule m 0.e=1.e;";
        real(c, many, 0, 4, 3);
        real(c, many + "prod p:s x;rule p 1.d=1.e;", 2, 2, 3);
        real(c, many + "prod p:s x;rule p 1.c=1.e;", 3, 3, 4);
        real(c, many + "prod p:s x;rule p 1.b=1.e;", 0, 4, 4);
        // What outs hang on of one another is none.
        real(c, x + "prod p:x;prod q:x;rule q 0.e=0.f;prod r:x;rule r 0.f=0.e+0.g;", 0, 2, 1);
        // Nor what a SYMBOL without ins or without outs has.
        real(c, "symbol s out v w;symbol t in a;prod p:s;prod q:s;rule q 0.v=0.w;prod r:t;", 0, 2, 2);
    }

    // The root's SHADE comes over a SHADE of any one CHILD.
    private static void shadeOverEachChild(Check c) {
        String head = "symbol s in i out o;symbol x in a out b;symbol r;prod n:x;rule n 0.b=0.a;prod t:r s;rule t 1.i=1.o;";
        for (int position = 1; position <= 3; position++) {
            for (int others = position; others <= 3; others++) {
                String p = "prod p:s" + " x".repeat(others) + ";rule p " + position + ".a=0.i;rule p 0.o=" + position + ".b;";
                real(c, head + p, 3, 3, 3);
                shades(c, 1, 1, 1);
                real(c, head.replace("rule n 0.b=0.a;", "") + p, 0, 4, 3);
            }
        }
        // Over one CHILD to the other, in either order.
        real(c, head + "prod p:s x x x;rule p 3.a=0.i;rule p 1.a=3.b;rule p 2.a=1.b;rule p 0.o=2.b;", 3, 3, 3);
        real(c, head + "prod p:s x x x;rule p 3.a=0.i;rule p 1.a=3.b;rule p 0.o=2.b;", 0, 4, 3);
    }

    // "each with each": x has three SHADES, y two, z one; a CIRCLE comes by the last of each alone.
    private static void eachWithEach(Check c) {
        String head = "symbol s;symbol x in a c e out b d f;symbol y in a c out b d;symbol z in a out b;prod xa:x;"
                + "rule xa 0.b=0.a;prod xb:x;rule xb 0.d=0.c;prod xc:x;rule xc 0.f=0.e;prod ya:y;rule ya 0.b=0.a;prod yb:y;"
                + "rule yb 0.d=0.c;prod za:z;rule za 0.b=0.a;";
        for (String order : ORDERS) {
            String text = head + "prod p:s " + String.join(" ", order.split("")) + ";" + ring(order);
            real(c, text, 2, 2, 7);
            shades(c, 1, 3, 2, 1);
            for (String out : new String[] {"rule xc 0.f=0.e;", "rule yb 0.d=0.c;", "rule za 0.b=0.a;"}) {
                real(c, text.replace(out, ""), 0, 3, 7);
            }
        }
    }

    // Each CHILD's in of the last SHADE asks the next one's out.
    private static String ring(String order) {
        StringBuilder rules = new StringBuilder();
        for (int n = 0; n < 3; n++) {
            int next = (n + 1) % 3;
            rules.append("rule p ").append(n + 1).append('.').append("eca".charAt("xyz".indexOf(order.charAt(n)))).append('=')
                    .append(next + 1).append('.').append("fdb".charAt("xyz".indexOf(order.charAt(next)))).append(';');
        }
        return rules.toString();
    }

    // "SHADES found in ROUNDS ahead": one of them of the latest ROUND, the others of earlier ones, at any POSITION.
    private static void newAtOnePosition(Check c) {
        // x and s have three SHADES by ROUND 1, y one, and by ROUND 2 that of x's n.
        String head = "symbol s in i j out o;symbol x in a c out b;symbol y in a out b;prod sa:s;prod sb:s;rule sb 0.o=0.i;prod sc:s;"
                + "rule sc 0.o=0.j;prod k:x;prod l:x;rule l 0.b=0.c;prod n:x;rule n 0.b=0.a;prod m:y;prod u:y x;rule u 1.a=0.a;"
                + "rule u 0.b=1.b;";
        for (String sides : new String[] {"y x x", "x y x", "x x y", "y y x", "y x y", "x y y", "y y y"}) {
            String text = head + "prod p:s " + sides + ";rule p 1.a=2.b;rule p 2.a=3.b;rule p 3.a=1.b;";
            real(c, text, 3, 3, 8);
            shades(c, 3, 3, 2);
            real(c, text.replace("rule n 0.b=0.a;", ""), 0, 2, 6);
        }
        for (String sides : new String[] {"y x", "x y", "y y"}) {
            real(c, head + "prod p:s " + sides + ";rule p 1.a=2.b;rule p 2.a=1.b;", 3, 3, 8);
        }
        real(c, head + "prod p:s y;rule p 1.a=1.b;", 3, 3, 8);
    }

    // "in a PRODUCTION, with SHADES of its CHILDREN, an OCC hangs on itself": any one that there is.
    private static void circleAtAnyOcc(Check c) {
        String x = "symbol x in a b c d out e f g h;symbol s;";
        real(c, x + "prod n:x;rule n 0.e=0.e;", 1, 1, 1);
        real(c, x + "prod n:x;rule n 0.h=0.h;", 1, 1, 1);
        real(c, x + "prod n:x;prod p:s x x x;rule p 1.a=1.a;", 2, 2, 2);
        real(c, x + "prod n:x;prod p:s x x x;rule p 3.d=3.d;", 2, 2, 2);
        real(c, x + "prod n:x;rule n 0.h=0.d;prod p:s x x x;rule p 3.d=3.h;", 2, 2, 2);
        real(c, x + "prod n:x;rule n 0.h=0.d;prod p:s x x x;rule p 3.c=3.h;", 0, 3, 2);
        // Not what is INDUCED by another PRODUCTION of the CHILD's SYMBOL, of which no tree is whole.
        real(c, x + "prod n:x;prod m:x x;rule m 0.h=0.d;prod p:s x;rule p 1.d=1.h;", 3, 3, 3);
        real(c, x + "symbol y;prod n:x;prod m:x y;rule m 0.h=0.d;prod p:s x;rule p 1.d=1.h;", 0, 3, 2);
        c.due("though it may be", c.x.circle(-1), 0);
    }

    private static void levels(Check c) {
        // A chain of SYMBOLS: the CIRCLE is seen in the PRODUCTION of the first of them.
        for (int many = 1; many <= 7; many++) {
            StringBuilder text = new StringBuilder("symbol s;");
            for (int n = 0; n < many; n++) {
                char x = (char) ('a' + n);
                char y = (char) (x + 1);
                text.insert(0, "symbol " + x + " in i out o;");
                text.append(n + 1 == many ? "prod #:#;rule # 0.o=0.i;".replace('#', x)
                        : "prod #:# @;rule # 1.i=0.i;rule # 0.o=1.o;".replace('#', x).replace('@', y));
            }
            real(c, text + "prod z:s a;rule z 1.i=1.o;", many + 1, many + 1, many + 1);
            // Without the last link it is known in one ROUND more that there is none.
            real(c, text + "prod z:s a;", 0, many + 2, many + 1);
        }
    }

    // "(the one that brings none, too)"
    private static void roundThatBringsNone(Check c) {
        // ROUND 2 has trees more, but no other SHADE.
        real(c, "symbol s in i out o;prod p:s;prod q:s s;", 0, 2, 1);
        real(c, "symbol s in i out o;prod p:s;prod q:s s;rule q 0.o=0.i;", 0, 3, 2);
        // The CIRCLE is found in a ROUND that brings none.
        real(c, "symbol s in i out o;prod p:s;rule p 0.o=0.i;prod q:s s;rule q 1.i=1.o;rule q 0.o=0.i;", 2, 2, 1);
    }

    // "3: SHADES in all then": with those of the ROUND of the CIRCLE, without later ones.
    private static void shadesInAllThen(Check c) {
        String x = "symbol x in a b out e f;prod n:x;rule n 0.e=0.a;prod u:x x;rule u 1.a=0.b;rule u 0.f=1.e;prod w:x x;"
                + "rule w 1.b=0.a;rule w 0.e=1.f;symbol y in a out b;prod k:y;rule k 0.b=0.b;";
        real(c, x, 1, 1, 2);
        shades(c, 3, 1);
        real(c, x.replace("rule k 0.b=0.b;", ""), 0, 3, 4);
        // In ROUND 2, which brings two of x; y's like one counts once.
        real(c, x.replace("rule k 0.b=0.b;", "prod l:y y;rule l 1.a=1.a;"), 2, 2, 4);
    }

    // "SHADES of a SYMBOL, found when no more come (CIRCLES or not)"
    private static void circlesOrNot(Check c) {
        // A tree with a CIRCLE has a SHADE, and is a CHILD of others.
        real(c, "symbol s in a b out v;prod n:s;rule n 0.v=0.v+0.a;prod u:s s;rule u 1.a=0.b;rule u 0.v=1.v;prod w:s s;"
                + "rule w 1.b=0.a+0.b;rule w 0.v=1.v;", 1, 1, 1);
        shades(c, 3 + 1);
        c.fresh();
        c.grammar("symbol s;prod p:s s;");
        shades(c, 0);
    }

    // x has each mask of so many, one PRODUCTION each; w brings for each the one with d besides.
    private static String masks(int... masks) {
        StringBuilder text = new StringBuilder("symbol x in a b c d out e;symbol y in a b c d out e;");
        for (int mask : masks) {
            String p = "p" + (char) ('a' + mask);
            text.append("prod ").append(p).append(":x;");
            if (mask > 0) {
                text.append("rule ").append(p).append(" 0.e=0");
                for (int bit = 0; bit < 4; bit++) {
                    text.append((mask >> bit & 1) == 0 ? "" : "+0." + (char) ('a' + bit));
                }
                text.append(';');
            }
        }
        return text.toString();
    }

    private static String along(String p, String sides) {
        return "prod " + p + ":" + sides + ";rule " + p + " 0.e=1.e;" + "rule @ 1.a=0.a;rule @ 1.b=0.b;rule @ 1.c=0.c;"
                .replace("@", p);
    }

    // "for a SYMBOL at most 12 SHADES: with more it is MORE than can be told"
    private static void twelveShades(Check c) {
        String w = along("w", "x x").replace("1.e;", "1.e+0.d;");
        String u = along("u", "y x") + "rule u 1.d=0.d;";
        // Twelve at once.
        real(c, masks(0, 1, 2, 3, 4, 5, 6, 7, 8, 9, 10, 11), 0, 2, 12);
        shades(c, 12, 0);
        // Twelve by ROUNDS, of two SYMBOLS each.
        real(c, masks(0, 1, 2, 3, 4, 5) + w + u, 0, 4, 24);
        shades(c, 12, 12);
        // The thirteenth by a PRODUCTION without CHILDREN; with it in w's place all is well.
        more(c, masks(0, 1, 2, 3, 4, 5, 14) + w + u, 2);
        real(c, masks(0, 1, 2, 3, 4, 13) + w + u, 0, 4, 22);
        more(c, masks(0, 1, 2, 3, 4, 5, 6) + w, 2);
        // Of the other SYMBOL alone: y has its own one besides x's twelve.
        more(c, masks(0, 1, 2, 3, 4, 5) + w + u + "prod v:y;rule v 0.e=0.b+0.c;", 2);
        real(c, masks(0, 1, 2, 3, 4, 5) + w + u + "prod v:y;rule v 0.e=0.b;", 0, 4, 24);
    }

    // "(6: more than 12 of a SYMBOL by that ROUND)"
    private static void moreByThatRound(Check c) {
        // x: 7 SHADES in ROUND 1, 14 in ROUND 2.
        String text = masks(0, 1, 2, 3, 4, 5, 6) + along("w", "x x").replace("1.e;", "1.e+0.d;") + "symbol z out o;";
        real(c, text + "prod q:z;rule q 0.o=0.o;", 1, 1, 8);
        c.refused("shades of x", c.x.shades(0), 6);
        c.refused("shades of z", c.x.shades(2), 6);
        // In that very ROUND, and later.
        more(c, text + "prod q:z x;rule q 0.o=0.o;", 3);
        more(c, text + "prod q:z;prod t:z z;rule t 0.o=0.o;", 3);
        more(c, text + "prod q:z y;rule q 0.o=0.o;prod v:y x;", 3);
        // With twelve in that ROUND it is told: 6 and 12.
        String twelve = text.replace("prod pg:x;rule pg 0.e=0+0.b+0.c;", "");
        real(c, twelve + "prod q:z x;rule q 0.o=0.o;", 2, 2, 13);
        c.due("shades of x", c.x.shades(0), 12);
        // y has 12 by ROUND 3, a thirteenth in none.
        real(c, twelve + along("u", "y x") + "rule u 1.d=0.d;prod q:z y;rule q 0.o=0.o;", 3, 3, 25);
    }

    // Each GRAMMAR is sought anew.
    private static void anotherGrammar(Check c) {
        c.fresh();
        for (int times = 0; times < 3; times++) {
            c.grammar("symbol s out v;prod p:s;rule p 0.v=0.v;");
            c.due("LEVELS", c.x.real(1), 1);
            c.due("SHADES", c.x.real(3), 1);
            c.grammar("symbol s in i out v;prod p:s;prod q:s s;rule q 0.v=0.i;");
            c.refused("none is REAL", c.x.real(1), 7);
            c.due("ROUNDS", c.x.real(2), 3);
            c.due("SHADES", c.x.real(3), 2);
            c.due("SHADES of s", c.x.shades(0), 2);
            c.grammar(masks(0, 1, 2, 3, 4, 5, 6) + along("w", "x x").replace("1.e;", "1.e+0.d;"));
            c.refused("MORE", c.x.shades(1), 6);
            c.grammar("symbol s;symbol t;");
            c.due("none", c.x.shades(1), 0);
            c.due("ROUNDS", c.x.real(2), 1);
        }
    }
}
