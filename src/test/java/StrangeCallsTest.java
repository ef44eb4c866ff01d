import java.util.Random;

/** Any arguments in any state: no call throws, and each tells a STATUS that is one. */
public final class StrangeCallsTest {
    private static final String[] TEXTS = {
        "symbol s in a b out c d;prod p:s s s s;prod q:s;rule p 1.a=2.c;rule p 0.c=0.d+1.c;rule q 0.d=0.a-num;",
        "p(q,p(q,q,q),q 3)", "q", "symbol s;prod p:s;", "p", "symbol s out v;prod p:s;rule p 0.v=if(0.v,num,0.v+1);",
        "symbol", "p(((((((((((((", ";", "9999", "symbol s in a b c d out e f g h;prod q:s;rule q 0.e=((((((0.h))))));"};
    private static final int[] EDGES = {0, 1, -1, 7, 8, 31, 32, 40, 39, 12, 999, 1000, 1001, 9999, 10000, 1 << 31, -8, 320};

    public static void main(String[] args) {
        Random random = new Random(5);
        Check c = new Check("StrangeCallsTest");
        for (int run = 0; run < 300; run++) {
            RuleShuttle x = new RuleShuttle();
            c.x = x;
            for (int n = 0; n < 300; n++) {
                int[] v = new int[5];
                for (int i = 0; i < v.length; i++) {
                    int kind = random.nextInt(10);
                    v[i] = kind == 0 ? random.nextInt() : kind < 3 ? EDGES[random.nextInt(EDGES.length)] : random.nextInt(6);
                }
                int text = -1;
                if (random.nextInt(6) == 0) {
                    text = random.nextInt(TEXTS.length);
                    c.feed(TEXTS[text]);
                    v[0] = random.nextInt(3) == 0 ? v[0] : TEXTS[text].length();
                    v[1] = v[0];
                }
                int which = text >= 0 ? random.nextInt(4) : random.nextInt(26);
                c.same("status of call " + which, known(x, which, v, random) ? 1 : 0, 1);
            }
        }
        c.end();
    }

    private static boolean known(RuleShuttle x, int which, int[] v, Random random) {
        call(x, which, v, random);
        int status = x.status();
        return status >= 0 && status <= 9 && status != 8;
    }

    private static int call(RuleShuttle x, int which, int[] v, Random random) {
        return switch (which) {
            case 0 -> x.grammar(v[0]);
            case 1 -> x.tree(v[0]);
            case 2 -> x.tree(v[0]);
            case 3 -> x.graft(random.nextInt(4), v[1]);
            case 4 -> x.many(v[0]);
            case 5 -> x.symbol(v[0], v[1]);
            case 6 -> x.production(v[0], v[1]);
            case 7 -> x.hangs(v[0], v[1], v[2], v[3]);
            case 8 -> x.induced(v[0], v[1], v[2]);
            case 9 -> x.circle(v[0]);
            case 10 -> x.visit(v[0], v[1]);
            case 11 -> x.ordered(v[0]);
            case 12 -> x.plan(v[0], v[1]);
            case 13 -> x.real(v[0]);
            case 14 -> x.shades(v[0]);
            case 15 -> x.node(v[0], v[1]);
            case 16 -> x.value(v[0], v[1]);
            case 17 -> x.knot(v[0], v[1], v[2]);
            case 18 -> x.span(v[0], v[1], v[2]);
            case 19 -> x.run(v[0]);
            case 20 -> x.longest();
            case 21 -> x.put(v[0], v[1]);
            case 22 -> x.give(v[0], v[1]);
            case 23 -> x.anew(v[0]);
            case 24 -> x.digest();
            default -> x.feed(v[0], v[1], v[2], v[3], v[4]) + x.fault(v[0]);
        };
    }
}
