import java.util.Random;

/** Any arguments in any state: no call throws, and each tells a STATUS that is one. */
public final class StrangeCallsTest {
    private static final String[] TEXTS = {
        "symbol s in a b out c d;prod p:s s s s;prod q:s;rule p 1.a=2.c;rule p 0.c=0.d+1.c;rule q 0.d=0.a-num;",
        "p(q,p(q,q,q),q 3)", "q", "symbol s;prod p:s;", "p", "symbol s out v;prod p:s;rule p 0.v=if(0.v,num,0.v+1);",
        "symbol", "p(((((((((((((", ";", "9999", "symbol s in a b c d out e f g h;prod q:s;rule q 0.e=((((((0.h))))));"};
    private static final String[] NAMES = {
        "grammar", "tree", "tree", "graft", "many", "symbol", "production", "hangs", "induced", "circle", "visit",
        "ordered", "plan", "real", "shades", "node", "value", "knot", "span", "run", "longest", "put", "give", "anew",
        "digest", "feed", "fault"};
    private static final int[] EDGES = {0, 1, -1, 7, 8, 31, 32, 40, 39, 12, 999, 1000, 1001, 9999, 10000, 1 << 31, -8, 320};

    public static void main(String[] args) {
        Random random = new Random(5);
        Check c = new Check("StrangeCallsTest");
        for (int run = 0; run < 500; run++) {
            c.fresh();
            RuleShuttle x = c.x;
            for (int n = 0; n < 180; n++) {
                int[] v = new int[5];
                for (int i = 0; i < v.length; i++) {
                    int kind = random.nextInt(10);
                    v[i] = kind == 0 ? random.nextInt() : kind < 3 ? EDGES[random.nextInt(EDGES.length)] : random.nextInt(6);
                }
                int text = -1;
                if (random.nextInt(6) == 0) {
                    text = random.nextInt(TEXTS.length);
                    c.feed(TEXTS[text]);
                    v[0] = random.nextInt(3) == 0 ? v[0] : TEXTS[text].length();
                    v[1] = v[0];
                }
                int which = text >= 0 ? random.nextInt(4) : random.nextInt(NAMES.length);
                c.same("status of call " + which, known(x, which, v, random) ? 1 : 0, 1);
            }
        }
        c.end();
    }

    private static boolean known(RuleShuttle x, int which, int[] v, Random random) {
        call(x, which, v, random);
        int status = x.status();
        return status >= 0 && status <= 9 && status != 8;
    }

    private static int call(RuleShuttle x, int which, int[] v, Random random) {
        if (which == 3) {
            v[0] = random.nextInt(4);
        }
        return Calls.call(x, NAMES[which], v);
    }
}
