import java.util.ArrayList;
import java.util.Arrays;
import java.util.List;

/**
 * Terms 2, promises 6 to 14, sentence by sentence at its edges: what hangs on what, circles that may be, sets and
 * visits, blocks and plans.
 */
public final class OrderEdgesTest {
    // b hangs on c by p, c on a by n: the visits of x are a c, b d.
    private static final String TWICE = "symbol s;symbol x in a b out c d;prod n:x;prod p:s x;rule n 0.c=0.a;"
            + "rule p 1.b=1.c;";
    // e, a f, b g, c h, d: five visits, of which the first has no in and the last no out.
    private static final String FIVE = "symbol x in a b c d out e f g h;prod n:x;rule n 0.f=0.a;rule n 0.g=0.b;"
            + "rule n 0.h=0.c;prod p:x x x x;rule p 1.a=1.e;rule p 1.b=1.f;rule p 1.c=1.g;rule p 1.d=1.h;";

    public static void main(String[] args) {
        Check c = new Check("OrderEdgesTest");
        byItsRule(c);
        inducedAtAnyPosition(c);
        inducedOverOthers(c);
        againAndAgain(c);
        closed(c);
        whichNumbers(c);
        firstCircle(c);
        circleOfOne(c);
        noAttributes(c);
        oneSide(c);
        lastSetFirst(c);
        filledOneByOne(c);
        emptySets(c);
        mostSets(c);
        hangsOnItself(c);
        orderedByVisits(c);
        firstBlock(c);
        leave(c);
        knownIns(c);
        firstOcc(c);
        firstChild(c);
        longestPlan(c);
        stepsOfPlan(c);
        anotherGrammar(c);
        c.end();
    }

    // All pairs of OCCs of a production, of which those told as "1>0" hang on one another, and no others.
    private static void pairs(Check c, String text, int p, int how, String due) {
        List<String> told = Arrays.asList(due.split(" "));
        List<Integer> occs = occsOf(c, text, p);
        for (int occ : occs) {
            if (c.left() < 3 * occs.size()) {
                c.fresh();
                c.grammar(text);
            }
            for (int on : occs) {
                c.same("hangs(" + p + ", " + occ + ", " + on + ", " + how + ") of " + text, c.x.hangs(p, occ, on, how),
                        told.contains(occ + ">" + on) ? 1 : 0);
            }
        }
    }

    private static List<Integer> occsOf(Check c, String text, int p) {
        c.fresh();
        c.grammar(text);
        List<Integer> occs = new ArrayList<>();
        for (int position = 0; position <= c.x.production(p, 1); position++) {
            int s = c.x.production(p, position == 0 ? 0 : position + 1);
            for (int a = 0; a < c.x.symbol(s, 0) + c.x.symbol(s, 1); a++) {
                occs.add(8 * position + a);
            }
        }
        return occs;
    }

    private static void induced(Check c, String text, int s, int many, String due) {
        c.fresh();
        c.grammar(text);
        List<String> told = Arrays.asList(due.split(" "));
        for (int a = 0; a < many; a++) {
            for (int on = 0; on < many; on++) {
                c.due("induced(" + s + ", " + a + ", " + on + ") of " + text, c.x.induced(s, a, on),
                        told.contains(a + ">" + on) ? 1 : 0);
            }
        }
    }

    private static void visits(Check c, String text, int s, int many, int... due) {
        c.fresh();
        c.grammar(text);
        c.due("symbol(" + s + ", 3) of " + text, c.x.symbol(s, 3), many);
        for (int a = 0; a < due.length; a++) {
            c.due("visit(" + s + ", " + a + ") of " + text, c.x.visit(s, a), due[a]);
        }
        c.refused("no more ATTRIBUTES", c.x.visit(s, due.length), 4);
    }

    private static void steps(Check c, int p, int... due) {
        c.due("plan(" + p + ", -1)", c.x.plan(p, -1), due.length);
        for (int i = 0; i < due.length; i++) {
            c.due("plan(" + p + ", " + i + ")", c.x.plan(p, i), due[i]);
        }
        c.refused("plan(" + p + ", " + due.length + ")", c.x.plan(p, due.length), 7);
    }

    private static String names(char first, int many) {
        StringBuilder names = new StringBuilder();
        for (int n = 0; n < many; n++) {
            names.append(' ').append((char) (first + n));
        }
        return names.toString();
    }

    // ---- what hangs on what

    // "One OCC HANGS on another one in a PRODUCTION, if its RULE asks that."
    private static void byItsRule(Check c) {
        String text = "symbol s in a b out c d;prod p:s s;rule p 0.c=if(0.a,(1.d),1.c-0.a)+num;rule p 1.b=1.b max 0.d;"
                + "rule p 0.d=7;prod q:s s;";
        pairs(c, text, 0, 0, "2>0 2>11 2>10 9>9 9>3");
        // No RULE asks anything there.
        pairs(c, text, 1, 0, "");
    }

    // "for each SYMBOL a hangs on b, if in some PRODUCTION at some POSITION of that SYMBOL .."
    private static void inducedAtAnyPosition(Check c) {
        String x = "symbol s;symbol x in a b out e f;";
        induced(c, x + "prod p:x;rule p 0.e=0.a;rule p 0.f=0.e;", 1, 4, "2>0 3>2 3>0");
        for (int position = 1; position <= 3; position++) {
            String sides = "prod q:x;prod p:s " + "s ".repeat(position - 1) + "x;";
            induced(c, x + sides + "rule p @.a=@.e;rule p @.b=@.a;".replace('@', (char) ('0' + position)), 1, 4,
                    "0>2 1>0 1>2");
        }
        // Of all its POSITIONS and PRODUCTIONS together, but over others in one PRODUCTION alone.
        induced(c, x + "prod p:x x;rule p 0.e=0.a;rule p 1.b=1.f;", 1, 4, "2>0 1>3");
        // Not of another SYMBOL with the same NAMES, nor of one in no PRODUCTION.
        String y = "symbol y in a b out e f;symbol z in a b out e f;prod p:x y;rule p 0.e=0.a;rule p 1.a=1.e;";
        induced(c, x + y, 1, 4, "2>0");
        induced(c, x + y, 2, 4, "0>2");
        induced(c, x + y, 3, 4, "");
        // From one POSITION to another is not among the ATTRIBUTES of one.
        induced(c, x + "prod p:x x;rule p 0.e=1.e;rule p 1.a=0.a;", 1, 4, "");
    }

    // "perhaps over others in between, where OCCS of one POSITION also hang on one another by what is INDUCED"
    private static void inducedOverOthers(Check c) {
        String text = "symbol s;symbol x in a b out e f;symbol y in i out o;prod p:s x y;rule p 1.a=2.o;rule p 2.i=1.f;";
        induced(c, text, 1, 4, "");
        // As y's o hangs on its i, x's a does on its f.
        induced(c, text + "prod n:y;rule n 0.o=0.i;", 1, 4, "0>3");
        induced(c, text + "prod n:y;rule n 0.o=0.i;", 2, 2, "1>0");
        // Over an OCC of the number 0.
        induced(c, "symbol s out v w u;prod p:s;rule p 0.w=0.v;rule p 0.v=0.u;", 0, 3, "1>0 0>2 1>2");
        // Over the LEFT side: x's a hangs on s's o, s's o on s's i by another PRODUCTION, s's i is asked by nothing.
        induced(c, "symbol s in i out o;symbol x in a out e;prod q:s;rule q 0.o=0.i;prod p:s x;rule p 1.a=0.o;"
                + "rule p 0.o=1.e;", 1, 2, "0>1");
    }

    // "(again and again, till no more comes)": each of eight SYMBOLS only when the next one is known.
    private static void againAndAgain(Check c) {
        StringBuilder symbols = new StringBuilder();
        StringBuilder forth = new StringBuilder();
        StringBuilder back = new StringBuilder();
        for (char s = 'a'; s <= 'h'; s++) {
            symbols.append("symbol ").append(s).append(" in i out o;");
            String p = s == 'h' ? "prod h:h;rule h 0.o=0.i;"
                    : "prod @:@ +;rule @ 1.i=0.i;rule @ 0.o=1.o;".replace('+', (char) (s + 1)).replace('@', s);
            forth.append(p);
            back.insert(0, p);
        }
        for (String text : new String[] {symbols.toString() + forth, symbols.toString() + back}) {
            for (int s = 0; s < 8; s++) {
                induced(c, text, s, 2, "1>0");
            }
        }
        String cut = symbols.toString() + forth.toString().replace("rule d 1.i=0.i;", "");
        for (int s = 0; s < 8; s++) {
            induced(c, cut, s, 2, s < 4 ? "" : "1>0");
        }
    }

    // "CLOSED in a PRODUCTION: over others in between, by RULES and by what is INDUCED."
    private static void closed(Check c) {
        String text = "symbol s out v;symbol x in a out e;prod p:s x x;prod n:x;rule p 1.a=2.e;rule p 0.v=1.e;"
                + "rule n 0.e=0.a;prod u:x x;";
        pairs(c, text, 0, 0, "8>17 0>9");
        // The second x's a has no RULE, but its e hangs on it as INDUCED.
        pairs(c, text, 0, 1, "8>17 0>9 9>8 17>16 8>16 9>17 9>16 0>8 0>17 0>16");
        pairs(c, text, 1, 1, "1>0");
        pairs(c, text, 2, 0, "");
        pairs(c, text, 2, 1, "1>0 9>8");
        // Over OCCs of all four POSITIONS, the number 0 among them.
        pairs(c, "symbol s out v w;prod p:s s s s;rule p 0.w=0.v;rule p 0.v=3.v;", 0, 1,
                "1>0 0>24 1>24 9>8 17>16 25>24");
    }

    // "4" of hangs(), induced(), visit(), symbol(), production(): the last one that is there, the first that isn't.
    private static void whichNumbers(Check c) {
        c.fresh();
        c.grammar("symbol s in a b c d out e f g h;symbol t in i out o;prod p:s s s s;prod q:t s;");
        int[] strange = {-1, Integer.MIN_VALUE, Integer.MAX_VALUE};
        c.due("the first OCC", c.x.hangs(0, 0, 0, 0), 0);
        c.due("the last OCC", c.x.hangs(0, 31, 31, 1), 0);
        for (int occ : new int[] {32, 33, 64, -1, -32, Integer.MIN_VALUE, Integer.MAX_VALUE}) {
            c.refused("no OCC " + occ, c.x.hangs(0, occ, 0, 0), 4);
            c.refused("on no OCC " + occ, c.x.hangs(0, 0, occ, 0), 4);
        }
        c.due("the last OCC of t", c.x.hangs(1, 1, 8, 2), 0);
        c.refused("no OCC 2 of t", c.x.hangs(1, 2, 8, 2), 4);
        c.due("the last OCC of q", c.x.hangs(1, 15, 0, 2), 0);
        c.refused("no third ATTRIBUTE of t", c.x.hangs(1, 2, 0, 0), 4);
        c.refused("no position 2 of q", c.x.hangs(1, 0, 16, 0), 4);
        c.due("the last ATTRIBUTE", c.x.induced(0, 7, 7), 0);
        c.refused("no ATTRIBUTE 8", c.x.induced(0, 8, 0), 4);
        c.refused("on no ATTRIBUTE 8", c.x.induced(0, 0, 8), 4);
        c.refused("no ATTRIBUTE 2 of t", c.x.induced(1, 2, 0), 4);
        c.refused("on no ATTRIBUTE 2 of t", c.x.induced(1, 0, 2), 4);
        c.due("the last ATTRIBUTE's VISIT", c.x.visit(0, 7), 1);
        c.refused("no VISIT of ATTRIBUTE 8", c.x.visit(0, 8), 4);
        c.refused("no VISIT of t's ATTRIBUTE 2", c.x.visit(1, 2), 4);
        c.refused("no SYMBOL 2", c.x.symbol(2, 0), 4);
        c.refused("no PRODUCTION 2", c.x.production(2, 0), 4);
        c.refused("no PRODUCTION 2", c.x.hangs(2, 0, 0, 0), 4);
        c.refused("no PRODUCTION 2", c.x.plan(2, -1), 4);
        c.refused("no SYMBOL 2", c.x.shades(2), 4);
        for (int n : strange) {
            c.refused("symbol", c.x.symbol(n, 0), 4);
            c.refused("symbol's what", c.x.symbol(0, n), 1);
            c.refused("production", c.x.production(n, 0), 4);
            c.refused("production's what", c.x.production(0, n), 1);
            c.refused("hangs' PRODUCTION", c.x.hangs(n, 0, 0, 0), 4);
            c.refused("hangs' how", c.x.hangs(0, 0, 0, n), 1);
            c.refused("induced", c.x.induced(n, 0, 0), 4);
            c.refused("induced", c.x.induced(0, n, 0), 4);
            c.refused("induced", c.x.induced(0, 0, n), 4);
            c.refused("visit", c.x.visit(n, 0), 4);
            c.refused("visit", c.x.visit(0, n), 4);
            c.refused("plan", c.x.plan(n, 0), 4);
            c.refused("shades", c.x.shades(n), 4);
        }
        c.grammar("symbol s;symbol t in i;prod p:s t s;");
        for (int occ = 0; occ < 32; occ++) {
            if (occ == 8) {
                c.due("its only OCC", c.x.hangs(0, occ, occ, 0), 0);
            } else {
                c.refused("no OCC " + occ, c.x.hangs(0, occ, 8, 0), 4);
            }
        }
        c.refused("no ATTRIBUTE of s", c.x.induced(0, 0, 0), 4);
        c.refused("no ATTRIBUTE of s", c.x.visit(0, 0), 4);
    }

    // ---- circles that may be

    // "of the first such PRODUCTION the first such OCC"
    private static void firstCircle(Check c) {
        String x = "symbol s;symbol x in a b c d out e f g h;";
        circle(c, x + "prod o:s;prod p:x;prod q:s x;rule p 0.g=0.h;rule p 0.h=0.g;", 1, 6);
        // The last OCC that there can be.
        circle(c, x + "prod o:s;prod p:s s s x;prod n:x;rule n 0.h=0.h;", 1, 31);
        circle(c, x + "prod p:s s x;prod n:x;rule n 0.h=0.h;", 0, 23);
        circle(c, x + "prod p:s x;prod n:x;rule n 0.h=0.h;", 0, 15);
        circle(c, x + "prod n:x;rule n 0.h=0.h;prod p:s x;", 0, 7);
        // Of an earlier POSITION ahead of a later one, of an earlier ATTRIBUTE ahead of a later one.
        circle(c, x + "prod p:s x x;rule p 2.a=2.a;", 0, 8);
        circle(c, x + "prod p:s x;rule p 1.c=1.b;rule p 1.b=1.c;rule p 1.d=1.d;", 0, 9);
        circle(c, "symbol s out v;prod p:s;rule p 0.v=0.v;", 0, 0);
        // Over two PRODUCTIONS, of which none has it by its RULES alone.
        circle(c, "symbol s;symbol x in a out e;prod n:x;prod p:s x;rule n 0.e=0.a;rule p 1.a=1.e;", 0, 0);
        // By twelve PRODUCTIONS, the last one.
        circle(c, "symbol s out v;symbol t out w;" + "abcdefghijk".replaceAll("(.)", "prod $1:s;")
                + "prod l:t;rule l 0.w=0.w;", 11, 0);
    }

    private static void circle(Check c, String text, int p, int occ) {
        c.fresh();
        c.grammar(text);
        c.due("circle(NONE) of " + text, c.x.circle(-1), p);
        c.due("circle(0) of " + text, c.x.circle(0), occ);
        c.refused("circle(1) of " + text, c.x.circle(1), 7);
        c.due("ordered(0) of " + text, c.x.ordered(0), 0);
        c.due("BLOCK of " + text, c.x.ordered(1), p);
    }

    // "back to it: as few as can be": what hangs on itself, CLOSED, is INDUCED on itself, so it goes back at once.
    private static void circleOfOne(Check c) {
        c.fresh();
        c.grammar("symbol s out v w u t;prod p:s;rule p 0.v=0.w;rule p 0.w=0.u;rule p 0.u=0.t;rule p 0.t=0.v;");
        c.due("the first OCC", c.x.circle(0), 0);
        c.due("INDUCED on itself", c.x.induced(0, 0, 0), 1);
        c.due("not by its RULE", c.x.hangs(0, 0, 0, 0), 0);
        for (int what : new int[] {1, 2, 3, 4, 31, 32, 1000, Integer.MAX_VALUE}) {
            c.refused("not so many", c.x.circle(what), 7);
        }
        c.refused("below NONE", c.x.circle(-2), 1);
        c.refused("far below NONE", c.x.circle(Integer.MIN_VALUE), 1);
        c.grammar("symbol s out v;prod p:s;");
        for (int what : new int[] {-1, 0, 1, Integer.MAX_VALUE}) {
            c.refused("none", c.x.circle(what), 7);
        }
        c.refused("below NONE, though there is none", c.x.circle(-2), 1);
    }

    // ---- sets and visits

    // "A SYMBOL without ATTRIBUTES has one VISIT."
    private static void noAttributes(Check c) {
        visits(c, "symbol s;", 0, 1);
        visits(c, "symbol s;prod p:s s;", 0, 1);
        visits(c, "symbol t in a;symbol s;prod p:t s;", 1, 1);
    }

    private static void oneSide(Check c) {
        visits(c, "symbol s in a;", 0, 1, 1);
        visits(c, "symbol s in a b c d;", 0, 1, 1, 1, 1, 1);
        visits(c, "symbol s out a;", 0, 1, 1);
        visits(c, "symbol s out a b c d;", 0, 1, 1, 1, 1, 1);
        visits(c, "symbol s in a b c d out e f g h;", 0, 1, 1, 1, 1, 1, 1, 1, 1, 1);
    }

    // "SETS, the last one first: those out that nothing hangs on ..": each as late as can be.
    private static void lastSetFirst(Check c) {
        visits(c, TWICE, 1, 2, 1, 2, 1, 2);
        // What hangs on nothing, and on which nothing hangs, is in the last VISIT.
        visits(c, TWICE.replace("in a b out c d", "in a b y out c d z"), 1, 2, 1, 2, 2, 1, 2, 2);
        // d needs a alone, but nothing hangs on it.
        visits(c, TWICE + "rule n 0.d=0.a;", 1, 2, 1, 2, 1, 2);
        // "an out SET ahead of which there is no in SET is a VISIT alone"
        visits(c, TWICE.replace("rule n 0.c=0.a;", ""), 1, 2, 2, 2, 1, 2);
        // a waits for b, and b for c.
        visits(c, TWICE.replace("rule n 0.c=0.a;", "rule p 1.a=1.b;"), 1, 2, 2, 2, 1, 2);
    }

    // "(A SET is filled one by one: what came into it ahead is in a SET then, till no more comes.)"
    private static void filledOneByOne(Check c) {
        String out = "symbol s out a b c d;prod p:s;";
        visits(c, out + "rule p 0.b=0.a;", 0, 1, 1, 1, 1, 1);
        visits(c, out + "rule p 0.a=0.b;", 0, 1, 1, 1, 1, 1);
        visits(c, out + "rule p 0.b=0.a;rule p 0.c=0.b;rule p 0.d=0.c;", 0, 1, 1, 1, 1, 1);
        visits(c, out + "rule p 0.a=0.b;rule p 0.b=0.c;rule p 0.c=0.d;", 0, 1, 1, 1, 1, 1);
        String in = "symbol t;symbol s in a b c d;prod p:t s;";
        visits(c, in + "rule p 1.b=1.a;rule p 1.c=1.b;rule p 1.d=1.c;", 1, 1, 1, 1, 1, 1);
        visits(c, in + "rule p 1.a=1.b;rule p 1.b=1.c;rule p 1.c=1.d;", 1, 1, 1, 1, 1, 1);
        // Out and in, each by two: d, then c on which it hangs; then b, then a; and the others ahead of them.
        visits(c, "symbol t;symbol s in a b out e f g h;prod n:s;prod p:t s;rule n 0.h=0.g;rule n 0.g=0.b;rule p 1.b=1.a;"
                + "rule p 1.a=1.f;rule n 0.f=0.e;", 1, 2, 2, 2, 1, 1, 2, 2);
    }

    // "(a SET may be empty)": the last out SET, when all outs are hung on by ins.
    private static void emptySets(Check c) {
        String x = "symbol s;symbol x in a b out e;prod n:x;prod p:s x;";
        visits(c, x + "rule p 1.a=1.e;", 1, 2, 2, 2, 1);
        visits(c, x + "rule p 1.a=1.e;rule n 0.e=0.b;", 1, 2, 2, 1, 1);
        visits(c, x + "rule p 1.a=1.e;rule p 1.b=1.e;", 1, 2, 2, 2, 1);
    }

    // Nine SETS, of which the last is empty; eight; and no more VISITS than five.
    private static void mostSets(Check c) {
        visits(c, FIVE, 0, 5, 2, 3, 4, 5, 1, 2, 3, 4);
        visits(c, "symbol x in a b c d out e f g h;prod n:x;rule n 0.e=0.a;rule n 0.f=0.b;rule n 0.g=0.c;rule n 0.h=0.d;"
                + "prod p:x x;rule p 1.b=1.e;rule p 1.c=1.f;rule p 1.d=1.g;", 0, 4, 1, 2, 3, 4, 1, 2, 3, 4);
        // As many as can be without the last one's in.
        visits(c, FIVE.replace("rule p 1.d=1.h;", ""), 0, 4, 2, 3, 4, 4, 1, 2, 3, 4);
    }

    // "for which nothing hangs on itself as INDUCED", "7 of 3", "7", "7 of 2: .. for a SYMBOL at a POSITION"
    private static void hangsOnItself(Check c) {
        String text = "symbol s in i out o;symbol x out v w;prod l:x;prod a:s x;prod b:x s;prod d:s s x;prod e:s s s;"
                + "rule l 0.v=0.v;";
        c.fresh();
        c.grammar(text);
        c.refused("VISITS of x", c.x.symbol(1, 3), 7);
        c.refused("its v", c.x.visit(1, 0), 7);
        c.refused("its w, too", c.x.visit(1, 1), 7);
        c.refused("no such ATTRIBUTE", c.x.visit(1, 2), 4);
        c.due("its other numbers are there", c.x.symbol(1, 2), 2);
        c.due("VISITS of s", c.x.symbol(0, 3), 1);
        c.due("a VISIT of s", c.x.visit(0, 1), 1);
        int[] wide = {7, 7, 7, 7, 0};
        for (int p = 0; p < wide.length; p++) {
            if (wide[p] == 7) {
                c.refused("hangs how 2 of PRODUCTION " + p, c.x.hangs(p, 1, 0, 2), 7);
            } else {
                c.due("hangs how 2 of PRODUCTION " + p, c.x.hangs(p, 1, 0, 2), 1);
            }
            c.due("hangs how 1 of PRODUCTION " + p, c.x.hangs(p, 1, 0, 1), 0);
            c.due("hangs how 0 of PRODUCTION " + p, c.x.hangs(p, 1, 0, 0), 0);
        }
        c.refused("no OCC of a PRODUCTION with such a SYMBOL", c.x.hangs(0, 2, 0, 2), 4);
        // Of the last CHILD alone, of the LEFT side alone.
        c.refused("third POSITION", c.x.hangs(3, 16, 17, 2), 7);
        c.refused("LEFT side", c.x.hangs(2, 8, 8, 2), 7);
    }

    // ---- ordered, and blocks

    // "when besides at each POSITION what is in a later VISIT hangs on all of an earlier one, and outs of a VISIT on
    // its ins"
    private static void orderedByVisits(Check c) {
        pairs(c, TWICE, 0, 2, "1>0 1>2 2>0 3>0 3>1 3>2");
        pairs(c, TWICE, 1, 2, "9>8 9>10 10>8 11>8 11>9 11>10");
        pairs(c, TWICE + "prod o:x x;rule o 0.c=1.c;", 2, 2, "1>0 1>2 2>0 3>0 3>1 3>2 9>8 9>10 10>8 11>8 11>9 11>10 "
                + "2>10 2>8 1>10 1>8 3>10 3>8");
        // Ins of one VISIT don't hang on one another, nor outs.
        pairs(c, "symbol s in a b out c d;prod p:s;", 0, 2, "2>0 2>1 3>0 3>1");
        pairs(c, "symbol s in a b c out d;prod p:s;", 0, 2, "3>0 3>1 3>2");
        pairs(c, "symbol s in a out b c d;prod p:s;", 0, 2, "1>0 2>0 3>0");
        pairs(c, "symbol s in a b c d;prod p:s s;", 0, 2, "");
        pairs(c, "symbol s out a b c d;prod p:s s;", 0, 2, "");
        // With three outs of the first VISIT, and with three ins.
        pairs(c, "symbol s;symbol x in a out b c d;prod n:x;prod p:s x;rule p 1.a=1.b+1.c+1.d;", 0, 2, "0>1 0>2 0>3");
        // j, on which nothing hangs, hangs on them by VISITS alone.
        pairs(c, "symbol s;symbol x in a j out b c d;prod n:x;prod p:s x;rule p 1.a=1.b+1.c+1.d;", 0, 2,
                "0>2 0>3 0>4 1>2 1>3 1>4");
        pairs(c, "symbol s;symbol x in a b c out d;prod n:x;prod p:s x;rule p 1.a=1.d;rule p 1.b=1.d;rule p 1.c=1.d;", 0, 2,
                "0>3 1>3 2>3");
        // An out VISIT alone is ahead of all.
        pairs(c, "symbol s;symbol x in a b out c d;prod n:x;prod p:s x;rule p 1.a=1.c;", 0, 2, "0>2 1>2 3>0 3>1 3>2");
        // What is CLOSED besides stays.
        pairs(c, "symbol s in a out c;prod p:s s;rule p 1.a=0.a;rule p 0.c=1.c;", 0, 2, "1>0 8>0 9>8 9>0 1>9 1>8");
        c.fresh();
        c.grammar(TWICE);
        c.due("ordered", c.x.ordered(0), 1);
        c.refused("no BLOCK", c.x.ordered(1), 7);
        c.due("no PRODUCTION", c.grammar("symbol s;"), 0);
        c.due("is ordered", c.x.ordered(0), 1);
        c.refused("no BLOCK", c.x.ordered(1), 7);
    }

    // "BLOCK: the first PRODUCTION in which one does (by CIRCLES, too)."
    private static void firstBlock(Check c) {
        String x = "symbol s;symbol x in a b y out c d z;prod n:x;rule n 0.c=0.a;rule n 0.d=0.b;prod m:s x;";
        // One VISIT: an out of it hangs on all its ins, so each CHILD's b on the other one's.
        block(c, x + "prod p:s x x;rule p 1.b=2.c;rule p 2.b=1.c;", 2);
        ordered(c, x + "prod p:s x x;rule p 1.b=2.c;");
        // Two VISITS, a c and b y d z: z of the second one hangs on a of the first one, y on c.
        String two = x + "rule m 1.b=1.c;";
        String ring = "prod p:s x x;rule p 1.a=2.z;rule p 2.a=1.z;";
        block(c, two + ring, 2);
        ordered(c, two + ring.replace("rule p 2.a=1.z;", ""));
        ordered(c, two + "prod p:s x x;rule p 1.b=2.c;rule p 2.b=1.c;");
        // In the last POSITIONS, and with the LEFT side.
        block(c, two + "prod p:s s x x;rule p 2.a=3.z;rule p 3.a=2.z;", 2);
        block(c, two + "prod p:x x;rule p 0.c=1.z;rule p 1.a=0.y;", 2);
        ordered(c, two + "prod p:x x;rule p 0.c=1.z;rule p 1.a=0.a;");
        // By VISITS ahead of a CIRCLE, by a CIRCLE ahead of VISITS, by a CIRCLE alone.
        String loop = "symbol y out o;prod l:y;rule l 0.o=0.o;";
        block(c, two + ring + loop, 2);
        c.due("its CIRCLE is behind", c.x.circle(-1), 3);
        block(c, loop + two + ring, 0);
        c.due("its CIRCLE", c.x.circle(-1), 0);
        block(c, two + loop, 2);
        // The first of two by VISITS; the last of twelve PRODUCTIONS.
        block(c, two + ring + ring.replace("p", "q").replace("qrod", "prod"), 2);
        block(c, two + "defghijkl".replaceAll("(.)", "prod $1:s;") + ring, 11);
    }

    private static void block(Check c, String text, int p) {
        c.fresh();
        c.grammar(text);
        c.due("ordered(0) of " + text, c.x.ordered(0), 0);
        c.due("BLOCK of " + text, c.x.ordered(1), p);
        c.refused("plan of " + text, c.x.plan(0, -1), 5);
        c.refused("plan of the BLOCK", c.x.plan(p, 0), 5);
    }

    private static void ordered(Check c, String text) {
        c.fresh();
        c.grammar(text);
        c.due("ordered(0) of " + text, c.x.ordered(0), 1);
        c.refused("BLOCK of " + text, c.x.ordered(1), 7);
        c.due("plan of " + text, c.x.plan(2, c.x.plan(2, -1) - 1), 1000 + c.x.symbol(c.x.production(2, 0), 3));
    }

    // ---- plans

    // "LEAVE, but for the last VISIT, if all outs of this VISIT are known"
    private static void leave(Check c) {
        c.fresh();
        c.grammar(TWICE);
        // Ahead of the RULE of d, which can be worked out at once.
        steps(c, 0, 102, 1001, 103, 1002);
        steps(c, 1, 108, 11, 109, 12, 1001);
        c.fresh();
        c.grammar(FIVE);
        steps(c, 0, 104, 1001, 105, 1002, 106, 1003, 107, 1004, 1005);
        // In the last VISIT all that is left is done, though its outs are known.
        c.fresh();
        c.grammar("symbol s out v;symbol t in a out b;prod p:s t t;rule p 0.v=1;");
        steps(c, 0, 100, 108, 116, 11, 21, 1001);
        c.fresh();
        c.grammar("symbol s;prod p:s;prod q:s s;prod r:s s s s;");
        steps(c, 0, 1001);
        steps(c, 1, 11, 1001);
        steps(c, 2, 11, 21, 31, 1001);
    }

    // "In each VISIT of the LEFT side its ins of that VISIT are known, and those of ones ahead."
    private static void knownIns(Check c) {
        String text = "symbol s;symbol t out v;symbol x in a b out e f;prod p:s x;rule p 1.a=1.e;prod n:x t;rule n 0.e=1.v+0.b;"
                + "rule n 0.f=0.a+0.b;";
        c.fresh();
        c.grammar(text);
        // f can't be told in the first VISIT: a, though the first ATTRIBUTE, is not known there.
        steps(c, 1, 11, 102, 1001, 103, 1002);
        c.due("b", c.x.visit(2, 1), 1);
        c.due("a", c.x.visit(2, 0), 2);
        // All ins are known at once where there is one VISIT.
        c.fresh();
        c.grammar("symbol s in a b c d out e f g h;prod p:s;rule p 0.e=0.d;rule p 0.f=0.c;rule p 0.g=0.b;rule p 0.h=0.a;");
        steps(c, 0, 104, 105, 106, 107, 1001);
    }

    // "else the RULE of the first OCC (with a RULE or without) that can be told and isn't known yet, if all that it
    // asks is known"
    private static void firstOcc(Check c) {
        c.fresh();
        // 0.o and 0.u wait for others; what comes behind is known ahead of them.
        c.grammar("symbol s in i out o u;symbol t in a b out v;prod p:s t t t;rule p 0.o=0.u;rule p 0.u=3.b;rule p 1.a=1.b;"
                + "rule p 2.a=2.b;rule p 2.b=num;");
        steps(c, 0, 109, 108, 117, 116, 124, 125, 102, 101, 11, 21, 31, 1001);
        // Only what can be told has a STEP: no out of a CHILD, no in of the LEFT side.
        c.fresh();
        c.grammar("symbol s in a out e;prod p:s s s s;");
        steps(c, 0, 101, 108, 116, 124, 11, 21, 31, 1001);
    }

    // "else the next VISIT of the first CHILD all ins of that VISIT of which are known"
    private static void firstChild(Check c) {
        c.fresh();
        // Nothing is asked of the second one till the first is through: by VISITS of the first, one behind the other.
        c.grammar(TWICE + "prod q:s x x;");
        steps(c, 2, 108, 109, 116, 117, 11, 12, 21, 22, 1001);
        // The first one waits for the third, the third for the second.
        c.fresh();
        c.grammar("symbol s;symbol t in a out b;prod p:s t t t;rule p 1.a=3.b;rule p 3.a=2.b;");
        steps(c, 0, 116, 21, 124, 31, 108, 11, 1001);
        // Only the outs of that VISIT are known then: the second's b waits for the first's d, of VISIT 2.
        c.fresh();
        c.grammar(TWICE + "prod q:s x x;rule q 1.b=2.c;rule q 2.b=1.d;");
        steps(c, 2, 108, 116, 11, 21, 109, 12, 117, 22, 1001);
        // All ins of it, not one alone.
        c.fresh();
        c.grammar("symbol s;symbol t in a b out c;prod p:s t t;rule p 1.b=2.c;");
        steps(c, 0, 108, 116, 117, 21, 109, 11, 1001);
    }

    // As many STEPS as there can be: 16 RULES, five VISITS of each of three CHILDREN, five times LEAVE.
    private static void longestPlan(Check c) {
        c.fresh();
        c.grammar(FIVE);
        steps(c, 1, 104, 1001, 105, 1002, 106, 1003, 107, 1004, 116, 117, 118, 119, 124, 125, 126, 127, 11, 108, 12, 109, 13,
                110, 14, 111, 15, 21, 22, 23, 24, 25, 31, 32, 33, 34, 35, 1005);
    }

    // "i NONE: how many STEPS, else the i-th (1: below NONE; 4; 5; 7)"
    private static void stepsOfPlan(Check c) {
        c.fresh();
        c.grammar("symbol s;prod p:s;");
        c.due("how many", c.x.plan(0, -1), 1);
        c.due("the first", c.x.plan(0, 0), 1001);
        c.refused("a second", c.x.plan(0, 1), 7);
        c.refused("far behind", c.x.plan(0, 36), 7);
        c.refused("farther", c.x.plan(0, Integer.MAX_VALUE), 7);
        c.refused("below NONE", c.x.plan(0, -2), 1);
        c.refused("far below NONE", c.x.plan(0, Integer.MIN_VALUE), 1);
        c.refused("below NONE of no PRODUCTION", c.x.plan(1, -2), 1);
        c.grammar("symbol s out v;prod p:s;rule p 0.v=0.v;");
        c.refused("not ORDERED", c.x.plan(0, -1), 5);
        c.refused("not ORDERED, and no such STEP", c.x.plan(0, 99), 5);
        c.refused("no PRODUCTION, and not ORDERED", c.x.plan(1, -1), 4);
    }

    // Another GRAMMAR takes the place of all that was there of those ahead of it.
    private static void anotherGrammar(Check c) {
        c.fresh();
        c.grammar("symbol x in" + names('a', 4) + " out" + names('e', 4) + ";prod q:x x;rule q 0.e=0.h;rule q 1.a=0.a;"
                + "rule q 0.h=0.e;");
        c.due("a CIRCLE", c.x.circle(-1), 0);
        for (int times = 0; times < 3; times++) {
            c.due("another", c.grammar("symbol s in a b out c d;prod p:s;"), 1);
            c.refused("no CIRCLE", c.x.circle(-1), 7);
            c.due("ordered", c.x.ordered(0), 1);
            c.due("one VISIT", c.x.symbol(0, 3), 1);
            for (int occ = 0; occ < 4; occ++) {
                c.due("hangs on nothing", c.x.hangs(0, occ, 0, 0), 0);
                c.due("nothing is INDUCED", c.x.induced(0, occ, 0), 0);
            }
            c.refused("no CHILD by now", c.x.hangs(0, 8, 0, 0), 4);
            steps(c, 0, 102, 103, 1001);
        }
    }
}
