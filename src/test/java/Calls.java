/** Calls by their names. */
final class Calls {
    private Calls() {
    }

    static int call(RuleShuttle x, String name, int... v) {
        return switch (name) {
            case "status" -> x.status();
            case "feed" -> x.feed(v[0], v[1], v[2], v[3], v[4]);
            case "fault" -> x.fault(v[0]);
            case "grammar" -> x.grammar(v[0]);
            case "many" -> x.many(v[0]);
            case "symbol" -> x.symbol(v[0], v[1]);
            case "production" -> x.production(v[0], v[1]);
            case "hangs" -> x.hangs(v[0], v[1], v[2], v[3]);
            case "induced" -> x.induced(v[0], v[1], v[2]);
            case "circle" -> x.circle(v[0]);
            case "visit" -> x.visit(v[0], v[1]);
            case "ordered" -> x.ordered(v[0]);
            case "plan" -> x.plan(v[0], v[1]);
            case "real" -> x.real(v[0]);
            case "shades" -> x.shades(v[0]);
            case "tree" -> x.tree(v[0]);
            case "node" -> x.node(v[0], v[1]);
            case "value" -> x.value(v[0], v[1]);
            case "knot" -> x.knot(v[0], v[1], v[2]);
            case "span" -> x.span(v[0], v[1], v[2]);
            case "run" -> x.run(v[0]);
            case "longest" -> x.longest();
            case "put" -> x.put(v[0], v[1]);
            case "give" -> x.give(v[0], v[1]);
            case "graft" -> x.graft(v[0], v[1]);
            case "anew" -> x.anew(v[0]);
            case "digest" -> x.digest();
            default -> throw new IllegalArgumentException(name);
        };
    }
}
