/** What an object tells of itself: so that two of them, or one ahead of a call and behind it, can be held together. */
final class Look {
    private final RuleShuttle x;
    private final StringBuilder seen = new StringBuilder();

    private Look(RuleShuttle x) {
        this.x = x;
    }

    /** All that can be asked of a small object in some 350 calls, and what is on its tape (which is empty then). */
    static String at(RuleShuttle x) {
        Look look = new Look(x);
        look.ask("fault", 0);
        look.ask("fault", 1);
        look.grammar();
        look.tree();
        look.tape();
        return look.seen.toString();
    }

    /** The same of a call that is refused for a fault: the tape and what fault() tells are other ones then. */
    static String butFault(RuleShuttle x) {
        Look look = new Look(x);
        look.grammar();
        look.tree();
        return look.seen.toString();
    }

    private void ask(String name, int... v) {
        int answer = Calls.call(x, name, v);
        seen.append(name);
        for (int i : v) {
            seen.append(' ').append(i);
        }
        seen.append(": ").append(answer);
        // fault() has no STATUS: what status() tells is of an earlier call.
        if (answer == RuleShuttle.NONE && !name.equals("fault")) {
            seen.append(" STATUS ").append(x.status());
        }
        seen.append('\n');
    }

    private void grammar() {
        for (int what = 0; what < 5; what++) {
            ask("many", what);
        }
        for (int s = 0; s < 3; s++) {
            ask("symbol", s, 0);
            ask("symbol", s, 1);
            ask("symbol", s, 3);
            ask("shades", s);
            ask("visit", s, 1);
            ask("induced", s, 1, 0);
            ask("induced", s, 0, 1);
        }
        for (int p = 0; p < 3; p++) {
            ask("production", p, 0);
            ask("production", p, 1);
            ask("production", p, 2);
            ask("production", p, 5);
            for (int i = -1; i < 4; i++) {
                ask("plan", p, i);
            }
            for (int how = 0; how < 3; how++) {
                ask("hangs", p, 0, 8, how);
                ask("hangs", p, 8, 9, how);
                ask("hangs", p, 1, 0, how);
            }
        }
        ask("circle", -1);
        ask("circle", 0);
        ask("ordered", 0);
        ask("ordered", 1);
        for (int what = 0; what < 4; what++) {
            ask("real", what);
        }
    }

    private void tree() {
        for (int k = 0; k < 4; k++) {
            for (int what : new int[] {0, 1, 2, 4, 7}) {
                ask("node", k, what);
            }
            for (int a = 0; a < 3; a++) {
                ask("value", k, a);
                ask("knot", k, a, 0);
                ask("knot", k, a, 1);
                ask("span", k, a, a % 2);
            }
        }
        ask("run", 0);
        ask("run", 1);
        ask("longest");
        ask("anew", 0);
        ask("anew", 1);
        ask("digest");
    }

    // A node that there isn't, or no tree: a graft that is not refused for its number leaves the tape as it was.
    private void tape() {
        int length = 0;
        for (int n = 20; n <= 100; n += 20) {
            x.graft(-1, n);
            length = x.status() == 1 ? length : n;
        }
        seen.append("tape: ").append(length).append('\n');
        x.grammar(length);
        seen.append("read: ").append(x.status());
        ask("fault", 0);
        ask("fault", 1);
        for (int what = 0; what < 3; what++) {
            ask("many", what);
        }
    }
}
