import java.util.function.Consumer;

/** One object under test, and what of its answers was not as due. */
final class Check {
    /** What an object answers behind so many calls is free: no test may look there. */
    static final int CALLS_MOST = 512;

    RuleShuttle x = new RuleShuttle();
    private final String test;
    private int wrong;
    private int asked;
    private int calls;

    Check(String test) {
        this.test = test;
    }

    void fresh() {
        x = new RuleShuttle();
        calls = 0;
    }

    /** An answer of a call that has a STATUS, which must be 0. */
    void due(String call, int got, int want) {
        same(call, got, want);
        same("status() after " + call, x.status(), 0);
    }

    /** An answer of a call that is refused. */
    void refused(String call, int got, int why) {
        same(call, got, RuleShuttle.NONE);
        same("status() after " + call, x.status(), why);
    }

    /** An answer alone. */
    void same(String call, int got, int want) {
        asked++;
        count(1);
        if (got != want) {
            wrong++;
            System.out.println(test + ": " + call + " answered " + got + ", due is " + want);
        }
    }

    /** Two looks at an object, or at two of them. */
    void alike(String call, String got, String want) {
        asked++;
        if (!got.equals(want)) {
            wrong++;
            System.out.println(test + ": " + call + " showed\n" + got + "due is\n" + want);
        }
    }

    /** How many calls more the object may be asked. */
    int left() {
        return CALLS_MOST - calls;
    }

    private void count(int more) {
        calls += more;
        if (calls - more <= CALLS_MOST && calls > CALLS_MOST) {
            wrong++;
            System.out.println(test + ": more than " + CALLS_MOST + " calls of one object");
        }
    }

    /** Feeds a text, filled up with blanks. */
    int feed(String text) {
        count((text.length() + 19) / 20);
        return feed(x, text);
    }

    static int feed(RuleShuttle x, String text) {
        int has = 0;
        for (int i = 0; i < text.length(); i += 20) {
            has = x.feed(four(text, i), four(text, i + 4), four(text, i + 8), four(text, i + 12), four(text, i + 16));
        }
        return has;
    }

    static int four(String text, int from) {
        int bytes = 0;
        for (int i = from; i < from + 4; i++) {
            bytes = bytes << 8 | (i < text.length() ? text.charAt(i) & 255 : ' ');
        }
        return bytes;
    }

    int grammar(String text) {
        feed(text);
        return x.grammar(text.length());
    }

    int tree(String text) {
        feed(text);
        return x.tree(text.length());
    }

    int graft(int k, String text) {
        feed(text);
        return x.graft(k, text.length());
    }

    /** A grammar without a fault, on a new object. */
    void told(String text, int productions) {
        fresh();
        due("grammar of " + text, grammar(text), productions);
        same("fault(0) of " + text, x.fault(0), 0);
        same("fault(1) of " + text, x.fault(1), RuleShuttle.NONE);
    }

    /** A grammar with a fault, on a new object, which has none then. */
    void grammarFault(String text, int kind, int place) {
        fresh();
        refused("grammar of " + text, grammar(text), 9);
        same("fault(0) of " + text, x.fault(0), kind);
        same("fault(1) of " + text, x.fault(1), place);
        same("symbols behind a fault", x.many(0), 0);
    }

    void treeFault(String text, int kind, int place) {
        refused("tree of " + text, tree(text), 9);
        same("fault(0) of " + text, x.fault(0), kind);
        same("fault(1) of " + text, x.fault(1), place);
    }

    void graftFault(int k, String text, int kind, int place) {
        refused("graft of " + text, graft(k, text), 9);
        same("fault(0) of " + text, x.fault(0), kind);
        same("fault(1) of " + text, x.fault(1), place);
    }

    /** A text with a ^ ahead of the token at which it has its fault. */
    void grammarFaultAt(int kind, String marked) {
        grammarFault(marked.replace("^", ""), kind, marked.indexOf('^'));
    }

    void treeFaultAt(int kind, String marked) {
        treeFault(marked.replace("^", ""), kind, marked.indexOf('^'));
    }

    void graftFaultAt(int k, int kind, String marked) {
        graftFault(k, marked.replace("^", ""), kind, marked.indexOf('^'));
    }

    /** Whether an object that is asked besides is then as one that is not. */
    void untouched(String label, Consumer<RuleShuttle> before, Consumer<RuleShuttle> asking) {
        RuleShuttle one = new RuleShuttle();
        RuleShuttle other = new RuleShuttle();
        before.accept(one);
        before.accept(other);
        asking.accept(one);
        alike("behind " + label, Look.at(one), Look.at(other));
    }

    void end() {
        System.out.println(test + ": " + (asked - wrong) + " of " + asked + " as due");
        if (wrong != 0) {
            System.exit(1);
        }
    }
}
