/** One object under test, and what of its answers was not as due. */
final class Check {
    RuleShuttle x = new RuleShuttle();
    private final String test;
    private int wrong;
    private int asked;

    Check(String test) {
        this.test = test;
    }

    void fresh() {
        x = new RuleShuttle();
    }

    /** An answer of a call that has a STATUS, which must be 0. */
    void due(String call, int got, int want) {
        same(call, got, want);
        same("status() after " + call, x.status(), 0);
    }

    /** An answer of a call that is refused. */
    void refused(String call, int got, int why) {
        same(call, got, RuleShuttle.NONE);
        same("status() after " + call, x.status(), why);
    }

    /** An answer alone. */
    void same(String call, int got, int want) {
        asked++;
        if (got != want) {
            wrong++;
            System.out.println(test + ": " + call + " answered " + got + ", due is " + want);
        }
    }

    /** Feeds a text, filled up with blanks. */
    int feed(String text) {
        int has = 0;
        for (int i = 0; i < text.length(); i += 20) {
            has = x.feed(four(text, i), four(text, i + 4), four(text, i + 8), four(text, i + 12), four(text, i + 16));
        }
        return has;
    }

    static int four(String text, int from) {
        int bytes = 0;
        for (int i = from; i < from + 4; i++) {
            bytes = bytes << 8 | (i < text.length() ? text.charAt(i) & 255 : ' ');
        }
        return bytes;
    }

    int grammar(String text) {
        feed(text);
        return x.grammar(text.length());
    }

    int tree(String text) {
        feed(text);
        return x.tree(text.length());
    }

    int graft(int k, String text) {
        feed(text);
        return x.graft(k, text.length());
    }

    void grammarFault(String text, int kind, int place) {
        fresh();
        refused("grammar of " + text, grammar(text), 9);
        same("fault(0) of " + text, x.fault(0), kind);
        same("fault(1) of " + text, x.fault(1), place);
    }

    void treeFault(String text, int kind, int place) {
        refused("tree of " + text, tree(text), 9);
        same("fault(0) of " + text, x.fault(0), kind);
        same("fault(1) of " + text, x.fault(1), place);
    }

    void graftFault(int k, String text, int kind, int place) {
        refused("graft of " + text, graft(k, text), 9);
        same("fault(0) of " + text, x.fault(0), kind);
        same("fault(1) of " + text, x.fault(1), place);
    }

    void end() {
        System.out.println(test + ": " + (asked - wrong) + " of " + asked + " as due");
        if (wrong != 0) {
            System.exit(1);
        }
    }
}
