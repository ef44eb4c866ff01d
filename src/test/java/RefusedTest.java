import java.util.function.Consumer;

/**
 * Terms 4: each STATUS that a call can have, the first of those that hold; what a refused call answers, and that it
 * leaves all as it was (but for the tape and what fault() tells, with a FAULT).
 */
public final class RefusedTest {
    private static final String PLAIN = "symbol s in d out v;prod a:s s;prod e:s;rule a 1.d=0.d+1;rule a 0.v=1.v+num;"
            + "rule e 0.v=0.d*num;";
    private static final String LOOP = "symbol s in d out v;symbol t out o;prod a:s s;prod e:s;prod o:t;rule a 1.d=1.v+num min 9;"
            + "rule a 0.v=1.v;rule e 0.v=0.d+1;";
    // 4, 10, 15 SHADES of x by ROUND.
    private static final String MORE = "symbol x in a b c d out e f g h;prod u:x x x;rule u 1.a=0.a;rule u 1.b=0.b;rule u 1.c=0.c;"
            + "rule u 1.d=0.d;rule u 2.a=0.a;rule u 2.b=0.b;rule u 2.c=0.c;rule u 2.d=0.d;rule u 0.e=1.e+2.e;"
            + "rule u 0.f=1.f+2.f;rule u 0.g=1.g+2.g;rule u 0.h=1.h+2.h;prod la:x;rule la 0.e=0.a;prod lb:x;rule lb 0.f=0.b;"
            + "prod lc:x;rule lc 0.g=0.c;prod ld:x;rule ld 0.h=0.d;";
    private static final int MIN = Integer.MIN_VALUE;
    private static final int MAX = Integer.MAX_VALUE;

    /** In which state an object is when it is asked. */
    private enum State {
        NEW, TOLD, GROWN, CHANGED, LOOPING, LOOPED, MANY;

        void bring(RuleShuttle x) {
            switch (this) {
                case NEW -> x.status();
                case TOLD -> grammar(x, PLAIN);
                case LOOPING -> grammar(x, LOOP);
                case MANY -> grammar(x, MORE);
                case GROWN -> {
                    grammar(x, PLAIN);
                    tree(x, "a(a 2(e 3))");
                }
                case CHANGED -> {
                    grammar(x, PLAIN);
                    tree(x, "a(a 2(e 3))");
                    x.give(0, 5);
                    x.put(2, 7);
                }
                default -> {
                    grammar(x, LOOP);
                    tree(x, "a 1(e)");
                    x.give(0, -1);
                }
            }
            // What is no text of anything, so that a refused call that reads it is seen.
            Check.feed(x, "?".repeat(40));
        }
    }

    public static void main(String[] args) {
        Check c = new Check("RefusedTest");
        asked(c);
        askedOfNothing(c);
        askedOfGrammars(c);
        askedOfTrees(c);
        texts(c);
        changes(c);
        faults(c);
        answersLeaveAll(c);
        latestStatus(c);
        c.end();
    }

    private static void grammar(RuleShuttle x, String text) {
        Check.feed(x, text);
        x.grammar(text.length());
    }

    private static void tree(RuleShuttle x, String text) {
        Check.feed(x, text);
        x.tree(text.length());
    }

    // A call in a state is refused so, and leaves all as it was.
    private static void refused(Check c, State state, int status, String name, int... v) {
        StringBuilder call = new StringBuilder(state + ": " + name);
        for (int i : v) {
            call.append(' ').append(i);
        }
        c.fresh();
        state.bring(c.x);
        c.refused(call.toString(), Calls.call(c.x, name, v), status);
        c.untouched(call.toString(), state::bring, x -> Calls.call(x, name, v));
    }

    // The states are what they are called.
    private static void asked(Check c) {
        for (State state : State.values()) {
            c.fresh();
            state.bring(c.x);
            c.due("PRODUCTIONS", c.x.many(1), state == State.NEW ? 0 : state.name().startsWith("LOOP") ? 3 : state == State.MANY
                    ? 5 : 2);
            boolean grown = state == State.GROWN || state == State.CHANGED;
            c.due("NODES", c.x.many(3), grown ? 3 : state == State.LOOPED ? 2 : 0);
        }
    }

    // ---- 2 no GRAMMAR, 3 no TREE, 4 no such of a new object; 1 ahead of them

    private static void askedOfNothing(Check c) {
        refused(c, State.NEW, 1, "many", -1);
        refused(c, State.NEW, 1, "many", 5);
        refused(c, State.NEW, 3, "many", 4);
        refused(c, State.NEW, 1, "symbol", 0, -1);
        refused(c, State.NEW, 1, "symbol", 0, 4);
        refused(c, State.NEW, 4, "symbol", 0, 3);
        refused(c, State.NEW, 1, "production", 0, -1);
        refused(c, State.NEW, 1, "production", 0, 6);
        refused(c, State.NEW, 4, "production", 0, 5);
        refused(c, State.NEW, 1, "hangs", 0, 0, 0, -1);
        refused(c, State.NEW, 1, "hangs", 0, 0, 0, 3);
        refused(c, State.NEW, 4, "hangs", 0, 0, 0, 2);
        refused(c, State.NEW, 4, "induced", 0, 0, 0);
        refused(c, State.NEW, 1, "circle", -2);
        refused(c, State.NEW, 2, "circle", -1);
        refused(c, State.NEW, 2, "circle", 0);
        refused(c, State.NEW, 4, "visit", 0, 0);
        refused(c, State.NEW, 1, "ordered", -1);
        refused(c, State.NEW, 1, "ordered", 2);
        refused(c, State.NEW, 2, "ordered", 0);
        refused(c, State.NEW, 2, "ordered", 1);
        refused(c, State.NEW, 1, "plan", 0, -2);
        refused(c, State.NEW, 4, "plan", 0, -1);
        refused(c, State.NEW, 1, "real", -1);
        refused(c, State.NEW, 1, "real", 4);
        refused(c, State.NEW, 2, "real", 1);
        refused(c, State.NEW, 4, "shades", 0);
        refused(c, State.NEW, 1, "node", 0, -1);
        refused(c, State.NEW, 1, "node", 0, 9);
        refused(c, State.NEW, 3, "node", 0, 8);
        refused(c, State.NEW, 3, "value", 0, 0);
        refused(c, State.NEW, 1, "knot", 0, 0, 5);
        refused(c, State.NEW, 3, "knot", 0, 0, 4);
        refused(c, State.NEW, 1, "span", 0, 0, 2);
        refused(c, State.NEW, 3, "span", 0, 0, 1);
        refused(c, State.NEW, 1, "run", 2);
        refused(c, State.NEW, 3, "run", 1);
        refused(c, State.NEW, 3, "longest");
        refused(c, State.NEW, 3, "digest");
        refused(c, State.NEW, 1, "anew", 2);
        refused(c, State.NEW, 3, "anew", 1);
    }

    // ---- 4 ahead of 5, 6 and 7; 5 ahead of 7; 6 ahead of 7

    private static void askedOfGrammars(Check c) {
        refused(c, State.TOLD, 3, "many", 4);
        refused(c, State.LOOPING, 1, "symbol", 9, 4);
        refused(c, State.LOOPING, 4, "symbol", 2, 3);
        refused(c, State.LOOPING, 7, "symbol", 0, 3);
        refused(c, State.TOLD, 1, "production", 9, 6);
        refused(c, State.TOLD, 4, "production", 2, 4);
        refused(c, State.TOLD, 7, "production", 0, 3);
        refused(c, State.TOLD, 7, "production", 1, 2);
        refused(c, State.TOLD, 7, "production", 1, 4);
        refused(c, State.LOOPING, 1, "hangs", 9, 99, 99, 3);
        refused(c, State.LOOPING, 4, "hangs", 3, 0, 0, 2);
        refused(c, State.LOOPING, 4, "hangs", 0, 2, 0, 2);
        refused(c, State.LOOPING, 4, "hangs", 0, 0, 10, 2);
        refused(c, State.LOOPING, 7, "hangs", 0, 0, 0, 2);
        refused(c, State.LOOPING, 4, "induced", 0, 2, 0);
        refused(c, State.LOOPING, 4, "induced", 0, 0, 2);
        refused(c, State.LOOPING, 4, "induced", 2, 0, 0);
        refused(c, State.TOLD, 1, "circle", -2);
        refused(c, State.TOLD, 7, "circle", -1);
        refused(c, State.TOLD, 7, "circle", 0);
        refused(c, State.LOOPING, 7, "circle", 1);
        refused(c, State.LOOPING, 1, "circle", MIN);
        refused(c, State.LOOPING, 4, "visit", 0, 2);
        refused(c, State.LOOPING, 4, "visit", 2, 0);
        refused(c, State.LOOPING, 7, "visit", 0, 1);
        refused(c, State.TOLD, 1, "ordered", 2);
        refused(c, State.TOLD, 7, "ordered", 1);
        refused(c, State.LOOPING, 1, "plan", 3, -2);
        refused(c, State.LOOPING, 4, "plan", 3, 999);
        refused(c, State.LOOPING, 5, "plan", 0, 999);
        refused(c, State.LOOPING, 5, "plan", 2, -1);
        refused(c, State.TOLD, 7, "plan", 0, 4);
        refused(c, State.TOLD, 1, "plan", 0, MIN);
        refused(c, State.MANY, 1, "real", 4);
        for (int what = 0; what < 4; what++) {
            refused(c, State.MANY, 6, "real", what);
        }
        refused(c, State.TOLD, 7, "real", 1);
        refused(c, State.MANY, 4, "shades", 1);
        refused(c, State.MANY, 6, "shades", 0);
        refused(c, State.LOOPING, 3, "run", 0);
        refused(c, State.LOOPING, 1, "run", -1);
    }

    // ---- 3 ahead of 4; 4 ahead of 7; 5

    private static void askedOfTrees(Check c) {
        refused(c, State.TOLD, 1, "node", 9, 9);
        refused(c, State.TOLD, 3, "node", 9, 4);
        refused(c, State.GROWN, 1, "node", 9, 9);
        refused(c, State.GROWN, 4, "node", 3, 4);
        refused(c, State.GROWN, 7, "node", 0, 5);
        refused(c, State.GROWN, 7, "node", 0, 6);
        refused(c, State.GROWN, 7, "node", 2, 4);
        refused(c, State.TOLD, 3, "value", 9, 9);
        refused(c, State.GROWN, 4, "value", 3, 0);
        refused(c, State.GROWN, 4, "value", 0, 2);
        refused(c, State.TOLD, 1, "knot", 9, 9, -1);
        refused(c, State.TOLD, 3, "knot", 9, 9, 0);
        refused(c, State.GROWN, 1, "knot", 9, 9, 5);
        refused(c, State.GROWN, 4, "knot", 3, 0, 0);
        refused(c, State.GROWN, 4, "knot", 0, 2, 0);
        refused(c, State.GROWN, 7, "knot", 0, 0, 0);
        refused(c, State.LOOPED, 7, "knot", 0, 1, 4);
        refused(c, State.TOLD, 1, "span", 9, 9, 2);
        refused(c, State.TOLD, 3, "span", 9, 9, 1);
        refused(c, State.GROWN, 1, "span", 9, 9, -1);
        refused(c, State.GROWN, 4, "span", 3, 0, 0);
        refused(c, State.GROWN, 4, "span", 0, 2, 1);
        refused(c, State.LOOPED, 1, "run", 2);
        refused(c, State.LOOPED, 5, "run", 0);
        refused(c, State.LOOPED, 5, "run", 1);
        refused(c, State.TOLD, 3, "longest");
        refused(c, State.TOLD, 3, "digest");
        refused(c, State.TOLD, 1, "anew", -1);
        refused(c, State.TOLD, 3, "anew", 0);
        refused(c, State.GROWN, 1, "anew", 2);
        refused(c, State.GROWN, 7, "anew", 0);
        refused(c, State.GROWN, 7, "anew", 1);
    }

    // ---- 1 of a number that counts; 1 ahead of 2, 3 and 4, these ahead of 9: the tape stays then.

    private static void texts(Check c) {
        for (State state : State.values()) {
            for (int n : new int[] {-1, 41, MIN, MAX}) {
                refused(c, state, 1, "grammar", n);
                refused(c, state, 1, "tree", n);
                refused(c, state, 1, "graft", 0, n);
                refused(c, state, 1, "graft", 9, n);
            }
        }
        refused(c, State.NEW, 2, "tree", 0);
        refused(c, State.NEW, 2, "tree", 40);
        for (State state : new State[] {State.NEW, State.TOLD, State.LOOPING}) {
            refused(c, state, 3, "graft", 0, 40);
            refused(c, state, 3, "graft", -1, 0);
        }
        refused(c, State.CHANGED, 4, "graft", 3, 40);
        refused(c, State.CHANGED, 4, "graft", -1, 0);
    }

    private static void changes(Check c) {
        for (int number : new int[] {-1, 10000, MIN, MAX}) {
            refused(c, State.NEW, 1, "put", 0, number);
            refused(c, State.TOLD, 1, "put", 9, number);
            refused(c, State.CHANGED, 1, "put", 0, number);
            refused(c, State.CHANGED, 1, "put", 3, number);
        }
        refused(c, State.NEW, 3, "put", 0, 0);
        refused(c, State.TOLD, 3, "put", 9, 9999);
        refused(c, State.CHANGED, 4, "put", 3, 0);
        refused(c, State.CHANGED, 4, "put", -1, 0);
        refused(c, State.NEW, 3, "give", 0, 0);
        refused(c, State.TOLD, 3, "give", 9, 0);
        refused(c, State.CHANGED, 4, "give", 1, 0);
        refused(c, State.CHANGED, 4, "give", -1, 0);
        refused(c, State.LOOPED, 4, "give", 1, 7);
    }

    // ---- 9: the tape and what fault() tells are other ones, and nothing else.

    private static void faults(Check c) {
        String[] grammars = {"", "symbol q", "symbol q;symbol r in a b c;prod z:q r q;rule z 1.a=1;rule z 2.a=1;",
            "symbol q;prod z:q;prod y:q q;!", "symbol q out v;prod z:q;rule z 0.v=9;rule z 0.v=8;"};
        String[] trees = {"", "a(a 9(e 8)", "a(e 7,e)", "a(z)", "e 5)", "a(a(a(a(a(a(a(a(a(a(a(a(e"};
        for (State state : State.values()) {
            for (String text : grammars) {
                fault(c, state, x -> grammar(x, text));
            }
            for (String text : trees) {
                if (state != State.NEW) {
                    fault(c, state, x -> tree(x, text));
                }
                if (state == State.GROWN || state == State.CHANGED || state == State.LOOPED) {
                    fault(c, state, x -> graft(x, 0, text));
                    fault(c, state, x -> graft(x, 1, text));
                }
            }
        }
    }

    private static void graft(RuleShuttle x, int k, String text) {
        Check.feed(x, text);
        x.graft(k, text.length());
    }

    private static void fault(Check c, State state, Consumer<RuleShuttle> reading) {
        RuleShuttle one = new RuleShuttle();
        RuleShuttle other = new RuleShuttle();
        state.bring(one);
        state.bring(other);
        // The question marks ahead of the text go first.
        one.grammar(40);
        reading.accept(one);
        c.same("STATUS of a FAULT, " + state, one.status(), 9);
        c.same("a FAULT, " + state, one.fault(0) > 0 && one.fault(1) >= 0 ? 1 : 0, 1);
        c.same("the tape is empty then, " + state, one.feed(0, 0, 0, 0, 0), 20);
        c.alike("behind a FAULT, " + state, Look.butFault(one), Look.butFault(other));
        c.fresh();
    }

    // ---- 0: what only asks leaves all as it was, too.

    private static void answersLeaveAll(Check c) {
        for (State state : State.values()) {
            c.untouched("all that only asks, " + state, state::bring, RefusedTest::askAll);
        }
    }

    private static void askAll(RuleShuttle x) {
        int[] zeros = new int[5];
        for (String name : new String[] {"many", "symbol", "production", "hangs", "induced", "circle", "visit", "ordered", "plan",
            "real", "shades", "node", "value", "knot", "span", "run", "longest", "anew", "digest", "fault", "status"}) {
            for (int what = 0; what < 3; what++) {
                Calls.call(x, name, zeros);
                Calls.call(x, name, what, what, what, what);
            }
        }
    }

    // "STATUS of the latest call that has one."
    private static void latestStatus(Check c) {
        c.fresh();
        c.same("a new object's", c.x.status(), 0);
        int[] due = {3, 4, 2, 1, 0, 9, 0};
        for (int n = 0; n < due.length; n++) {
            switch (n) {
                case 0 -> c.x.digest();
                case 1 -> c.x.shades(0);
                case 2 -> c.x.tree(0);
                case 3 -> c.x.grammar(1);
                case 4 -> c.x.many(0);
                case 5 -> c.x.grammar(0);
                default -> c.grammar("symbol s;");
            }
            c.same("STATUS " + n, c.x.status(), due[n]);
            c.same("STATUS again", c.x.status(), due[n]);
        }
    }
}
