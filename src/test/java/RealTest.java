/** Promises 15 and 16: circles that some tree has, and the shades of symbols. */
public final class RealTest {
    public static void main(String[] args) {
        Check c = new Check("RealTest");
        wrong(c);
        maybeButNotReal(c);
        levels(c);
        noTrees(c);
        onGoes(c);
        twelve(c);
        more(c);
        c.end();
    }

    private static void all(Check c, int real, int levels, int rounds, int shades) {
        c.due("real(0)", c.x.real(0), real);
        if (levels == 0) {
            c.refused("real(1)", c.x.real(1), 7);
        } else {
            c.due("real(1)", c.x.real(1), levels);
        }
        c.due("real(2)", c.x.real(2), rounds);
        c.due("real(3)", c.x.real(3), shades);
    }

    private static void wrong(Check c) {
        c.refused("no grammar", c.x.real(0), 2);
        c.refused("what", c.x.real(4), 1);
        c.refused("what below 0", c.x.real(-1), 1);
        c.refused("no grammar", c.x.shades(0), 4);
        c.grammar("symbol s;");
        c.refused("no symbol", c.x.shades(1), 4);
        c.refused("no symbol below 0", c.x.shades(-1), 4);
        c.refused("what", c.x.real(4), 1);
    }

    private static void maybeButNotReal(Check c) {
        c.fresh();
        String text = "symbol s out v;symbol x in a c out b d;prod p:s x;prod l:x;prod r:x;rule p 1.a=1.d;"
                + "rule p 1.c=1.b;rule l 0.b=0.a;rule r 0.d=0.c;";
        c.grammar(text);
        c.due("a circle may be", c.x.circle(-1), 0);
        all(c, 0, 0, 3, 3);
        c.due("shades of s", c.x.shades(0), 1);
        c.due("shades of x", c.x.shades(1), 2);
        // One tree has both at once.
        c.grammar(text + "prod b:x;rule b 0.b=0.a;rule b 0.d=0.c;");
        all(c, 1, 2, 2, 4);
        c.due("shades of x", c.x.shades(1), 3);
    }

    private static void levels(Check c) {
        c.fresh();
        c.grammar("symbol s out v w;prod p:s;rule p 0.v=0.w;rule p 0.w=0.v;");
        all(c, 1, 1, 1, 1);
        c.due("a shade with a circle is one", c.x.shades(0), 1);
        // Over three rounds; a shade of the last round is counted.
        c.grammar("symbol s out v;symbol x in a out b;symbol y in a out b;prod p:s x;rule p 1.a=1.b;prod q:x y;"
                + "rule q 1.a=0.a;rule q 0.b=1.b;prod n:y;rule n 0.b=0.a;");
        all(c, 1, 3, 3, 3);
        c.due("shades of s", c.x.shades(0), 1);
        // A circle of which no tree has the children.
        c.grammar("symbol s out v;symbol x in a out b;prod p:s x;rule p 1.a=1.a;prod q:s;");
        all(c, 0, 0, 2, 1);
        c.due("shades of x", c.x.shades(1), 0);
    }

    private static void noTrees(Check c) {
        c.fresh();
        c.grammar("symbol s;prod p:s s;");
        all(c, 0, 0, 1, 0);
        c.due("shades", c.x.shades(0), 0);
        c.grammar("symbol s;");
        all(c, 0, 0, 1, 0);
        c.grammar("symbol s;prod p:s;prod q:s s s;");
        all(c, 0, 0, 2, 1);
        c.due("what hangs on nothing is a shade, too", c.x.shades(0), 1);
    }

    /** The circle is found in round 1, more shades come later. */
    private static void onGoes(Check c) {
        c.fresh();
        c.grammar("symbol s in a b out c d;prod n:s;rule n 0.c=0.a|0.d;rule n 0.d=0.d;prod t:s s;"
                + "rule t 1.a=0.b;rule t 0.c=1.c;");
        all(c, 1, 1, 1, 1);
        c.due("shades when no more come", c.x.shades(0), 3);
    }

    private static void twelve(Check c) {
        StringBuilder text = new StringBuilder("symbol x in a b c d out e;");
        for (int n = 0; n < 12; n++) {
            text.append("prod p").append((char) ('a' + n)).append(":x;rule p").append((char) ('a' + n)).append(" 0.e=0");
            for (int bit = 0; bit < 4; bit++) {
                text.append((n >> bit & 1) == 0 ? "" : "|0." + (char) ('a' + bit));
            }
            text.append(';');
        }
        c.fresh();
        c.due("twelve productions", c.grammar(text.toString()), 12);
        c.due("twelve shades", c.x.shades(0), 12);
        all(c, 0, 0, 2, 12);
        // With a thirteenth, by a production with children, in round 2.
        String last = "prod pl:x;rule pl 0.e=0|0.a|0.b|0.d;";
        String other = text.toString().replace(last, "prod pl:x x;rule pl 0.e=1.e|0.a|0.b|0.c|0.d;");
        c.due("twelve productions", c.grammar(other), 12);
        c.due("twelve shades", c.x.shades(0), 12);
        String one = "prod pl:x x;rule pl 1.b=0.b;rule pl 1.c=0.c;rule pl 0.e=1.e|0.d;";
        c.due("twelve productions", c.grammar(text.toString().replace(last, one)), 12);
        c.refused("thirteen shades", c.x.shades(0), 6);
        c.refused("real", c.x.real(3), 6);
        String many = "prod pl:x x;rule pl 1.a=0.a;rule pl 1.b=0.b;rule pl 1.c=0.c;rule pl 0.e=1.e|0.d;";
        c.due("twelve productions", c.grammar(text.toString().replace(last, many)), 12);
        c.refused("more shades", c.x.shades(0), 6);
        c.refused("real", c.x.real(0), 6);
    }

    private static String leaf(String name, String rules) {
        return "prod " + name + ":x;" + rules;
    }

    private static void more(Check c) {
        String text = "symbol x in a b c d out e f g h;symbol s out v;" + leaf("la", "rule la 0.e=0.a;")
                + leaf("lb", "rule lb 0.f=0.b;") + leaf("lc", "rule lc 0.g=0.c;") + leaf("ld", "rule ld 0.h=0.d;")
                + "prod u:x x x;rule u 1.a=0.a;rule u 1.b=0.b;rule u 1.c=0.c;rule u 1.d=0.d;"
                + "rule u 2.a=0.a;rule u 2.b=0.b;rule u 2.c=0.c;rule u 2.d=0.d;"
                + "rule u 0.e=1.e+2.e;rule u 0.f=1.f+2.f;rule u 0.g=1.g+2.g;rule u 0.h=1.h+2.h;";
        c.fresh();
        // 4, 10, 15 shades of x by round.
        c.grammar(text);
        for (int what = 0; what < 4; what++) {
            c.refused("real", c.x.real(what), 6);
        }
        c.refused("real(4)", c.x.real(4), 1);
        c.refused("shades(0)", c.x.shades(0), 6);
        c.refused("shades of another symbol", c.x.shades(1), 6);
        c.refused("shades of none", c.x.shades(2), 4);
        // A circle in round 2 is told, though later rounds bring more.
        c.grammar(text + "prod w:s x;rule w 1.a=1.e;");
        all(c, 1, 2, 2, 11);
        c.refused("shades", c.x.shades(1), 6);
        // A circle in round 3, as there are more than twelve, is not.
        c.grammar(text + "prod w:s x;rule w 1.a=1.f;rule w 1.b=1.e;");
        c.refused("real(0)", c.x.real(0), 6);
        c.refused("real(1)", c.x.real(1), 6);
        // A new grammar is sought anew.
        c.grammar("symbol s;prod p:s;");
        all(c, 0, 0, 2, 1);
    }
}
