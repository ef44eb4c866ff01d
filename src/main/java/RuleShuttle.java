import java.util.Arrays;

/** A generator of evaluators for attributed grammars; shared/DOC.md says what each call promises. */
public final class RuleShuttle {
    /** None. */
    public static final int NONE = -1;

    private static final int WRONG_NUMBER = 1;
    private static final int NO_GRAMMAR = 2;
    private static final int NO_TREE = 3;
    private static final int NO_SUCH = 4;
    private static final int NOT_ORDERED = 5;
    private static final int MORE = 6;
    private static final int NOTHING = 7;
    private static final int FAULTY = 9;

    private static final int FAULT_TOKEN = 1;
    private static final int FAULT_PLACE = 2;
    private static final int FAULT_UNKNOWN = 3;
    private static final int FAULT_TWICE = 4;
    private static final int FAULT_RULE = 5;
    private static final int FAULT_MANY = 6;
    private static final int FAULT_SYMBOL = 7;

    private static final int TAPE_MOST = 1000;
    private static final int SYMBOLS_MOST = 8;
    private static final int PRODUCTIONS_MOST = 12;
    private static final int SIDES_MOST = 4;
    private static final int SAME_MOST = 4;
    private static final int PARTS_MOST = 24;
    private static final int BRACKETS_MOST = 6;
    private static final int SHADES_MOST = 12;
    private static final int NODES_MOST = 40;
    private static final int DEEP_MOST = 12;
    private static final int TURNS_MOST = 64;
    private static final int OWN_MOST = 9999;

    // A production's OCCs are the bits of one int: 8 to a position.
    private static final int WIDTH = 8;
    private static final int OCCS = SIDES_MOST * WIDTH;
    private static final int INSTANCES = NODES_MOST * WIDTH;

    // The words of a rule's code; a smaller one is a number that stands for itself.
    private static final int CODE_OCC = 10000;
    private static final int CODE_NUM = 20000;
    private static final int CODE_OP = 30000;
    private static final int CODE_IF = 40000;

    private static final int OP_ADD = 0;
    private static final int OP_SUB = 1;
    private static final int OP_MUL = 2;
    private static final int OP_OR = 3;
    private static final int OP_AND = 4;
    private static final int OP_LESS = 5;
    private static final int OP_MAX = 6;
    private static final int OP_MIN = 7;

    // The kept words, five bits a letter (a is 1), as the tape reads words.
    private static final long WORD_SYMBOL = 0x279689ecL;
    private static final long WORD_PROD = 0x849e4L;
    private static final long WORD_RULE = 0x95585L;
    private static final long WORD_IN = 0x12eL;
    private static final long WORD_OUT = 0x3eb4L;
    private static final long WORD_NUM = 0x3aadL;
    private static final long WORD_MAX = 0x3438L;
    private static final long WORD_MIN = 0x352eL;
    private static final long WORD_IF = 0x126L;

    private int state;
    private int faultKind;
    private int faultPlace;
    private boolean touched;
    private final Tape tape;
    private final GrammarReader grammarReader;
    private final TreeReader treeReader;
    private final Hanging hanging;
    private final Plans plans;
    private final Shades shadows;
    private final Change change;
    // Of each pair one is in use; a text is read into the other one, so that a fault changes nothing.
    private Grammar rules;
    private Grammar spareRules;
    private Tree wood;
    private Tree spareWood;
    private Work work;
    private Work spareWork;

    public RuleShuttle() {
        state = 0;
        faultKind = NONE;
        faultPlace = NONE;
        touched = false;
        tape = new Tape();
        grammarReader = new GrammarReader();
        treeReader = new TreeReader();
        hanging = new Hanging();
        plans = new Plans();
        shadows = new Shades();
        change = new Change();
        rules = new Grammar();
        spareRules = new Grammar();
        wood = new Tree();
        spareWood = new Tree();
        work = new Work();
        spareWork = new Work();
    }

    public int status() {
        return state;
    }

    public int feed(int a, int b, int c, int d, int e) {
        if (tape.length + 20 > TAPE_MOST) {
            return NONE;
        }
        tape.append(a);
        tape.append(b);
        tape.append(c);
        tape.append(d);
        tape.append(e);
        return tape.length;
    }

    public int grammar(int n) {
        if (!tape.holds(n)) {
            return refuse(WRONG_NUMBER);
        }
        tape.begin(n);
        boolean good = grammarReader.read(tape, spareRules);
        keepFault(good);
        if (!good) {
            return refuse(FAULTY);
        }
        swapRules();
        wood.clear();
        hanging.find(rules);
        plans.find(rules, hanging);
        shadows.forget();
        return answer(rules.prods);
    }

    public int fault(int what) {
        return what == 0 ? faultKind : what == 1 ? faultPlace : NONE;
    }

    // ---- the grammar

    public int many(int what) {
        if (what < 0 || what > 4) {
            return refuse(WRONG_NUMBER);
        }
        if (what == 4 && wood.count == 0) {
            return refuse(NO_TREE);
        }
        switch (what) {
            case 0:
                return answer(rules.symbols);
            case 1:
                return answer(rules.prods);
            case 2:
                return answer(rules.allTold());
            case 3:
                return answer(wood.count);
            default:
                return answer(work.knots.many);
        }
    }

    public int symbol(int s, int what) {
        if (what < 0 || what > 3) {
            return refuse(WRONG_NUMBER);
        }
        if (!rules.hasSymbol(s)) {
            return refuse(NO_SUCH);
        }
        switch (what) {
            case 0:
                return answer(rules.ins[s]);
            case 1:
                return answer(rules.outs[s]);
            case 2:
                return answer(rules.leftSides(s));
            default:
                return plans.count[s] == 0 ? refuse(NOTHING) : answer(plans.count[s]);
        }
    }

    public int production(int p, int what) {
        if (what < 0 || what > 5) {
            return refuse(WRONG_NUMBER);
        }
        if (!rules.hasProduction(p)) {
            return refuse(NO_SUCH);
        }
        if (what == 0) {
            return answer(rules.side(p, 0));
        }
        if (what == 1) {
            return answer(rules.children(p));
        }
        if (what == 5) {
            return answer(Integer.bitCount(rules.told[p]));
        }
        int child = what - 1;
        return child > rules.children(p) ? refuse(NOTHING) : answer(rules.side(p, child));
    }

    public int hangs(int p, int occ, int on, int how) {
        if (how < 0 || how > 2) {
            return refuse(WRONG_NUMBER);
        }
        if (!rules.hasProduction(p) || !rules.hasOcc(p, occ) || !rules.hasOcc(p, on)) {
            return refuse(NO_SUCH);
        }
        if (how == 2 && !plans.fit(rules, p)) {
            return refuse(NOTHING);
        }
        int row = OCCS * p + occ;
        int asked = how == 0 ? rules.asks[row] : how == 1 ? hanging.closed[row] : plans.wide[row];
        return answer(asked >>> on & 1);
    }

    public int induced(int s, int a, int on) {
        if (!rules.hasAttribute(s, a) || !rules.hasAttribute(s, on)) {
            return refuse(NO_SUCH);
        }
        return answer(hanging.among[WIDTH * s + a] >>> on & 1);
    }

    public int circle(int what) {
        if (what < NONE) {
            return refuse(WRONG_NUMBER);
        }
        if (rules.symbols == 0) {
            return refuse(NO_GRAMMAR);
        }
        if (hanging.circleOcc == NONE || what > 0) {
            return refuse(NOTHING);
        }
        return answer(what == NONE ? hanging.circleProduction : hanging.circleOcc);
    }

    public int visit(int s, int a) {
        if (!rules.hasAttribute(s, a)) {
            return refuse(NO_SUCH);
        }
        return plans.count[s] == 0 ? refuse(NOTHING) : answer(plans.when[WIDTH * s + a]);
    }

    public int ordered(int what) {
        if (what < 0 || what > 1) {
            return refuse(WRONG_NUMBER);
        }
        if (rules.symbols == 0) {
            return refuse(NO_GRAMMAR);
        }
        boolean fits = plans.block == NONE;
        if (what == 0) {
            return answer(fits ? 1 : 0);
        }
        return fits ? refuse(NOTHING) : answer(plans.block);
    }

    public int plan(int p, int i) {
        if (i < NONE) {
            return refuse(WRONG_NUMBER);
        }
        if (!rules.hasProduction(p)) {
            return refuse(NO_SUCH);
        }
        if (plans.block != NONE) {
            return refuse(NOT_ORDERED);
        }
        if (i == NONE) {
            return answer(plans.length[p]);
        }
        return i >= plans.length[p] ? refuse(NOTHING) : answer(plans.step(p, i));
    }

    public int real(int what) {
        if (what < 0 || what > 3) {
            return refuse(WRONG_NUMBER);
        }
        if (rules.symbols == 0) {
            return refuse(NO_GRAMMAR);
        }
        shadows.seek(rules);
        if (shadows.unsure()) {
            return refuse(MORE);
        }
        boolean found = shadows.circleRound > 0;
        switch (what) {
            case 0:
                return answer(found ? 1 : 0);
            case 1:
                return found ? answer(shadows.circleRound) : refuse(NOTHING);
            case 2:
                return answer(found ? shadows.circleRound : shadows.rounds);
            default:
                return answer(found ? shadows.circleTotal : shadows.total());
        }
    }

    public int shades(int s) {
        if (!rules.hasSymbol(s)) {
            return refuse(NO_SUCH);
        }
        shadows.seek(rules);
        return shadows.overflow ? refuse(MORE) : answer(shadows.count[s]);
    }

    // ---- trees

    public int tree(int n) {
        if (!tape.holds(n)) {
            return refuse(WRONG_NUMBER);
        }
        if (rules.symbols == 0) {
            return refuse(NO_GRAMMAR);
        }
        tape.begin(n);
        spareWood.clear();
        boolean good = treeReader.read(tape, rules, spareWood, NONE, 0, NONE, 0);
        keepFault(good);
        if (!good) {
            return refuse(FAULTY);
        }
        spareWood.link(rules);
        swapWood();
        touched = false;
        work.begin(rules, wood);
        work.knots.find(wood);
        work.reckonAll();
        return answer(wood.count);
    }

    public int node(int k, int what) {
        if (what < 0 || what > 8) {
            return refuse(WRONG_NUMBER);
        }
        if (wood.count == 0) {
            return refuse(NO_TREE);
        }
        if (!wood.hasNode(k)) {
            return refuse(NO_SUCH);
        }
        switch (what) {
            case 0:
                return answer(wood.prod[k]);
            case 1:
                return answer(wood.own[k]);
            case 2:
                return answer(wood.parent[k]);
            case 3:
                return answer(wood.children[k]);
            case 7:
                return answer(wood.size[k]);
            case 8:
                return answer(wood.deep[k]);
            default:
                int child = what - 3;
                return child > wood.children[k] ? refuse(NOTHING) : answer(wood.child(k, child));
        }
    }

    public int value(int k, int a) {
        int wrong = noInstance(k, a);
        return wrong != 0 ? refuse(wrong) : answer(work.values[WIDTH * k + a]);
    }

    public int knot(int k, int a, int what) {
        if (what < 0 || what > 4) {
            return refuse(WRONG_NUMBER);
        }
        int wrong = noInstance(k, a);
        if (wrong != 0) {
            return refuse(wrong);
        }
        int group = work.knots.groupOf[WIDTH * k + a];
        if (!work.knots.tied[group]) {
            return refuse(NOTHING);
        }
        switch (what) {
            case 0:
                return answer(work.knots.size(group));
            case 1:
                return answer(work.turns[group]);
            case 2:
                return answer(work.unsettled[group] ? 1 : 0);
            case 3:
                return answer(work.knots.first(group) / WIDTH);
            default:
                return answer(work.knots.first(group) % WIDTH);
        }
    }

    public int span(int k, int a, int what) {
        if (what < 0 || what > 1) {
            return refuse(WRONG_NUMBER);
        }
        int wrong = noInstance(k, a);
        if (wrong != 0) {
            return refuse(wrong);
        }
        int from = WIDTH * k + a;
        return answer(what == 0 ? wood.need(from) : wood.reach(rules, from));
    }

    public int run(int what) {
        if (what < 0 || what > 1) {
            return refuse(WRONG_NUMBER);
        }
        if (wood.count == 0) {
            return refuse(NO_TREE);
        }
        if (plans.block != NONE) {
            return refuse(NOT_ORDERED);
        }
        int sum = what == 0 ? plans.count[wood.symbolAt[0]] : 0;
        // A plan goes through all visits of its children, so each node's plan is gone through once as a whole.
        for (int k = 0; k < wood.count; k++) {
            sum += what == 0 ? plans.visitSteps[wood.prod[k]] : plans.ruleSteps[wood.prod[k]];
        }
        return answer(sum);
    }

    public int longest() {
        if (wood.count == 0) {
            return refuse(NO_TREE);
        }
        return answer(work.knots.longestRow());
    }

    // ---- changes

    public int put(int k, int number) {
        if (number < 0 || number > OWN_MOST) {
            return refuse(WRONG_NUMBER);
        }
        if (wood.count == 0) {
            return refuse(NO_TREE);
        }
        if (!wood.hasNode(k)) {
            return refuse(NO_SUCH);
        }
        int was = wood.own[k];
        wood.own[k] = number;
        change.begin(wood.count);
        if (was != number) {
            change.markAskingOwn(rules, wood, k);
        }
        reckonAnew();
        return answer(was);
    }

    public int give(int a, int value) {
        if (wood.count == 0) {
            return refuse(NO_TREE);
        }
        if (a < 0 || a >= wood.ins[0]) {
            return refuse(NO_SUCH);
        }
        int was = wood.given[a];
        wood.given[a] = value;
        change.begin(wood.count);
        if (was != value) {
            change.mark(a);
        }
        reckonAnew();
        return answer(was);
    }

    public int graft(int k, int n) {
        if (!tape.holds(n)) {
            return refuse(WRONG_NUMBER);
        }
        if (wood.count == 0) {
            return refuse(NO_TREE);
        }
        if (!wood.hasNode(k)) {
            return refuse(NO_SUCH);
        }
        tape.begin(n);
        spareWood.copyAhead(rules, wood, k);
        int behind = wood.count - k - wood.size[k];
        int due = wood.symbolAt[k];
        boolean good = treeReader.read(tape, rules, spareWood, wood.parent[k], wood.place[k], due, behind);
        keepFault(good);
        if (!good) {
            return refuse(FAULTY);
        }
        int came = spareWood.count - k;
        spareWood.copyBehind(rules, wood, k, came);
        spareWood.link(rules);
        change.beginGraft(wood.count, k, wood.size[k], came);
        change.markGraft(wood, spareWood, work.knots);
        swapWood();
        reckonAnew();
        return answer(wood.count);
    }

    public int anew(int what) {
        if (what < 0 || what > 1) {
            return refuse(WRONG_NUMBER);
        }
        if (wood.count == 0) {
            return refuse(NO_TREE);
        }
        if (!touched) {
            return refuse(NOTHING);
        }
        return answer(what == 0 ? change.reckoned : change.altered);
    }

    public int digest() {
        if (wood.count == 0) {
            return refuse(NO_TREE);
        }
        int sum = 17;
        for (int i = 0; i < WIDTH * wood.count; i++) {
            if (wood.hasInstance(i / WIDTH, i % WIDTH)) {
                sum = 31 * sum + work.values[i];
            }
        }
        return answer(sum);
    }

    private int refuse(int why) {
        state = why;
        return NONE;
    }

    private int answer(int what) {
        state = 0;
        return what;
    }

    private void keepFault(boolean good) {
        faultKind = good ? 0 : tape.fault;
        faultPlace = good ? NONE : tape.place;
    }

    private int noInstance(int k, int a) {
        if (wood.count == 0) {
            return NO_TREE;
        }
        return wood.hasNode(k) && wood.hasInstance(k, a) ? 0 : NO_SUCH;
    }

    private void swapRules() {
        Grammar read = spareRules;
        spareRules = rules;
        rules = read;
    }

    private void swapWood() {
        Tree read = spareWood;
        spareWood = wood;
        wood = read;
    }

    private static void clearFlags(boolean[] flags) {
        for (int i = 0; i < flags.length; i++) {
            flags[i] = false;
        }
    }

    private void reckonAnew() {
        Work before = work;
        work = spareWork;
        spareWork = before;
        work.begin(rules, wood);
        work.knots.find(wood);
        change.reckon(wood, work, before);
        touched = true;
    }

    /** The tape, and the tokens of the text that is read from it. */
    private static final class Tape {
        static final int END = 0;
        static final int WORD = 1;
        static final int NUMBER = 2;
        static final int SIGN = 3;
        static final int BAD = 4;
        private static final int LETTERS_MOST = 8;
        private static final int DIGITS_MOST = 4;

        private final byte[] bytes = new byte[TAPE_MOST];
        private final int[] kinds = new int[TAPE_MOST + 1];
        private final int[] starts = new int[TAPE_MOST + 1];
        private final long[] contents = new long[TAPE_MOST + 1];
        private int tokens;
        private int here;
        int length;
        // Of the token that is next to be taken: a word's letters, a number, a sign.
        int kind;
        long content;
        int fault;
        int place;

        void append(int four) {
            for (int shift = 24; shift >= 0; shift -= 8) {
                if (length < bytes.length) {
                    bytes[length] = (byte) (four >>> shift);
                    length++;
                }
            }
        }

        boolean holds(int n) {
            return n >= 0 && n <= length;
        }

        /** Cuts the first n bytes into tokens; a reader takes them from the first one on. */
        void begin(int n) {
            length = 0;
            tokens = 0;
            fault = 0;
            place = NONE;
            int end = 0;
            for (int i = 0; i < n; i++) {
                if (i >= end && !isBlank(byteAt(i))) {
                    end = cut(i, n);
                }
            }
            add(END, n, 0);
            here = NONE;
            advance();
        }

        void advance() {
            if (here + 1 < tokens) {
                here++;
            }
            kind = kinds[here];
            content = contents[here];
        }

        boolean isSignOf(int c) {
            return kind == SIGN && content == c;
        }

        boolean isWordOf(long kept) {
            return kind == WORD && content == kept;
        }

        boolean isName() {
            return kind == WORD && content != WORD_SYMBOL && content != WORD_PROD && content != WORD_RULE
                    && content != WORD_IN && content != WORD_OUT && content != WORD_NUM && content != WORD_MAX
                    && content != WORD_MIN && content != WORD_IF;
        }

        /** Tells an OCC from a number that stands alone. */
        boolean pointFollows() {
            return here + 1 < tokens && kinds[here + 1] == SIGN && contents[here + 1] == '.';
        }

        boolean takeSign(int c) {
            if (kind != SIGN || content != c) {
                return fail(FAULT_PLACE);
            }
            advance();
            return true;
        }

        boolean fail(int why) {
            fault = kind == BAD ? FAULT_TOKEN : why;
            place = starts[here];
            return false;
        }

        private int byteAt(int i) {
            return bytes[i] & 255;
        }

        private void add(int what, int start, long inside) {
            if (tokens < kinds.length) {
                kinds[tokens] = what;
                starts[tokens] = start;
                contents[tokens] = inside;
                tokens++;
            }
        }

        // Adds the token that begins at a place, and gives the place behind it.
        private int cut(int start, int n) {
            int c = byteAt(start);
            if (isLetter(c)) {
                return cutWord(start, n);
            }
            if (isDigit(c)) {
                return cutNumber(start, n);
            }
            add(isSign(c) ? SIGN : BAD, start, c);
            return start + 1;
        }

        private int cutWord(int start, int n) {
            int end = start;
            long letters = 0;
            for (; end < n && isLetter(byteAt(end)); end++) {
                letters = 32 * letters + byteAt(end) - 'a' + 1;
            }
            add(end - start > LETTERS_MOST ? BAD : WORD, start, letters);
            return end;
        }

        private int cutNumber(int start, int n) {
            int end = start;
            long sum = 0;
            for (; end < n && isDigit(byteAt(end)); end++) {
                sum = 10 * sum + byteAt(end) - '0';
            }
            add(end - start > DIGITS_MOST ? BAD : NUMBER, start, sum);
            return end;
        }

        private static boolean isBlank(int c) {
            return c == 10 || c == 32;
        }

        private static boolean isLetter(int c) {
            return c >= 'a' && c <= 'z';
        }

        private static boolean isDigit(int c) {
            return c >= '0' && c <= '9';
        }

        private static boolean isSign(int c) {
            switch (c) {
                case ';':
                case ':':
                case ',':
                case '.':
                case '=':
                case '+':
                case '-':
                case '*':
                case '|':
                case '&':
                case '<':
                case '(':
                case ')':
                    return true;
                default:
                    return false;
            }
        }
    }

    /** What a grammar's text tells. */
    private static final class Grammar {
        int symbols;
        int prods;
        private int codes;
        private final long[] symbolNames = new long[SYMBOLS_MOST];
        private final long[] attributeNames = new long[SYMBOLS_MOST * WIDTH];
        private final long[] prodNames = new long[PRODUCTIONS_MOST];
        final int[] ins = new int[SYMBOLS_MOST];
        final int[] outs = new int[SYMBOLS_MOST];
        final int[] sides = new int[PRODUCTIONS_MOST];
        private final int[] symbolAt = new int[PRODUCTIONS_MOST * SIDES_MOST];
        final int[] used = new int[PRODUCTIONS_MOST];
        final int[] tellable = new int[PRODUCTIONS_MOST];
        final int[] told = new int[PRODUCTIONS_MOST];
        final int[] askOwn = new int[PRODUCTIONS_MOST];
        final int[] asks = new int[PRODUCTIONS_MOST * OCCS];
        final int[] askedBy = new int[PRODUCTIONS_MOST * OCCS];
        final int[] codeFrom = new int[PRODUCTIONS_MOST * OCCS];
        final int[] codeTo = new int[PRODUCTIONS_MOST * OCCS];
        final int[] code = new int[TAPE_MOST];

        void clear() {
            symbols = 0;
            prods = 0;
            codes = 0;
            Arrays.fill(asks, 0);
            Arrays.fill(askedBy, 0);
            // What has no rule has no code: it ends where it begins.
            Arrays.fill(codeFrom, 0);
            Arrays.fill(codeTo, 0);
        }

        boolean hasSymbol(int s) {
            return s >= 0 && s < symbols;
        }

        boolean hasAttribute(int s, int a) {
            return hasSymbol(s) && a >= 0 && a < ins[s] + outs[s];
        }

        boolean hasProduction(int p) {
            return p >= 0 && p < prods;
        }

        boolean hasOcc(int p, int occ) {
            return occ >= 0 && occ < OCCS && (used[p] >>> occ & 1) != 0;
        }

        int side(int p, int position) {
            return symbolAt[SIDES_MOST * p + position];
        }

        int children(int p) {
            return sides[p] - 1;
        }

        int insOf(int s) {
            return (1 << ins[s]) - 1;
        }

        int outsOf(int s) {
            return (1 << outs[s]) - 1 << ins[s];
        }

        int leftSides(int s) {
            int sum = 0;
            for (int p = 0; p < prods; p++) {
                if (side(p, 0) == s) {
                    sum++;
                }
            }
            return sum;
        }

        int allTold() {
            int sum = 0;
            for (int p = 0; p < prods; p++) {
                sum += Integer.bitCount(told[p]);
            }
            return sum;
        }

        int findSymbol(long name) {
            for (int s = 0; s < symbols; s++) {
                if (symbolNames[s] == name) {
                    return s;
                }
            }
            return NONE;
        }

        int findAttribute(int s, long name) {
            for (int a = 0; a < ins[s] + outs[s]; a++) {
                if (attributeNames[WIDTH * s + a] == name) {
                    return a;
                }
            }
            return NONE;
        }

        int findProduction(long name) {
            for (int p = 0; p < prods; p++) {
                if (prodNames[p] == name) {
                    return p;
                }
            }
            return NONE;
        }

        void addSymbol(long name) {
            symbolNames[symbols] = name;
            ins[symbols] = 0;
            outs[symbols] = 0;
            symbols++;
        }

        void addAttribute(int s, long name, boolean in) {
            attributeNames[WIDTH * s + ins[s] + outs[s]] = name;
            if (in) {
                ins[s]++;
            } else {
                outs[s]++;
            }
        }

        void addProduction(long name) {
            prodNames[prods] = name;
            sides[prods] = 0;
            used[prods] = 0;
            tellable[prods] = 0;
            told[prods] = 0;
            askOwn[prods] = 0;
            prods++;
        }

        void addSide(int p, int s) {
            int position = sides[p];
            symbolAt[SIDES_MOST * p + position] = s;
            used[p] |= (insOf(s) | outsOf(s)) << WIDTH * position;
            tellable[p] |= (position == 0 ? outsOf(s) : insOf(s)) << WIDTH * position;
            sides[p]++;
        }

        void addAsk(int p, int occ, int on) {
            asks[OCCS * p + occ] |= 1 << on;
            askedBy[OCCS * p + on] |= 1 << occ;
        }

        void beginCode(int p, int occ) {
            told[p] |= 1 << occ;
            codeFrom[OCCS * p + occ] = codes;
        }

        void addCode(int what) {
            if (codes < code.length) {
                code[codes] = what;
                codes++;
            }
        }

        void endCode(int p, int occ) {
            codeTo[OCCS * p + occ] = codes;
        }
    }

    /** Reads a grammar's text, up to its first fault. */
    private static final class GrammarReader {
        private Tape tape;
        private Grammar g;
        private int p;
        private int occ;
        private int parts;

        boolean read(Tape from, Grammar into) {
            tape = from;
            g = into;
            g.clear();
            boolean good = true;
            for (int line = 0; line < TAPE_MOST && good && (line == 0 || tape.kind != Tape.END); line++) {
                if (tape.isWordOf(WORD_SYMBOL)) {
                    good = readSymbol() && tape.takeSign(';');
                } else if (tape.isWordOf(WORD_PROD)) {
                    good = readProduction() && tape.takeSign(';');
                } else if (tape.isWordOf(WORD_RULE)) {
                    good = readRule() && tape.takeSign(';');
                } else {
                    good = tape.fail(FAULT_PLACE);
                }
            }
            return good;
        }

        private boolean readSymbol() {
            if (g.symbols >= SYMBOLS_MOST) {
                return tape.fail(FAULT_MANY);
            }
            tape.advance();
            if (!tape.isName()) {
                return tape.fail(FAULT_PLACE);
            }
            if (g.findSymbol(tape.content) != NONE) {
                return tape.fail(FAULT_TWICE);
            }
            g.addSymbol(tape.content);
            tape.advance();
            if (tape.isWordOf(WORD_IN) && !readAttributes(true)) {
                return false;
            }
            return !tape.isWordOf(WORD_OUT) || readAttributes(false);
        }

        private boolean readAttributes(boolean in) {
            tape.advance();
            boolean good = readAttribute(in);
            for (int more = 0; more < WIDTH && good && tape.isName(); more++) {
                good = readAttribute(in);
            }
            return good;
        }

        private boolean readAttribute(boolean in) {
            int s = g.symbols - 1;
            if (!tape.isName()) {
                return tape.fail(FAULT_PLACE);
            }
            if (g.findAttribute(s, tape.content) != NONE) {
                return tape.fail(FAULT_TWICE);
            }
            if ((in ? g.ins[s] : g.outs[s]) >= SAME_MOST) {
                return tape.fail(FAULT_MANY);
            }
            g.addAttribute(s, tape.content, in);
            tape.advance();
            return true;
        }

        private boolean readProduction() {
            if (g.prods >= PRODUCTIONS_MOST) {
                return tape.fail(FAULT_MANY);
            }
            tape.advance();
            if (!tape.isName()) {
                return tape.fail(FAULT_PLACE);
            }
            if (g.findProduction(tape.content) != NONE) {
                return tape.fail(FAULT_TWICE);
            }
            g.addProduction(tape.content);
            tape.advance();
            boolean good = tape.takeSign(':') && readSide();
            for (int more = 0; more < WIDTH && good && tape.isName(); more++) {
                good = readSide();
            }
            return good;
        }

        private boolean readSide() {
            if (!tape.isName()) {
                return tape.fail(FAULT_PLACE);
            }
            int s = g.findSymbol(tape.content);
            if (s == NONE) {
                return tape.fail(FAULT_UNKNOWN);
            }
            if (g.sides[g.prods - 1] >= SIDES_MOST) {
                return tape.fail(FAULT_MANY);
            }
            g.addSide(g.prods - 1, s);
            tape.advance();
            return true;
        }

        private boolean readRule() {
            tape.advance();
            if (!tape.isName()) {
                return tape.fail(FAULT_PLACE);
            }
            p = g.findProduction(tape.content);
            if (p == NONE) {
                return tape.fail(FAULT_UNKNOWN);
            }
            tape.advance();
            if (!positionStands()) {
                return false;
            }
            occ = seekOcc();
            if (occ == NONE) {
                return false;
            }
            if (((g.tellable[p] & ~g.told[p]) >>> occ & 1) == 0) {
                return tape.fail(FAULT_RULE);
            }
            g.beginCode(p, occ);
            parts = 0;
            tape.advance();
            boolean good = tape.takeSign('=') && readE(0);
            g.endCode(p, occ);
            return good;
        }

        // From a position that stands to the attribute's name, where the faults of an OCC are told.
        private int seekOcc() {
            int position = (int) tape.content;
            tape.advance();
            if (!tape.isSignOf('.')) {
                tape.fail(FAULT_PLACE);
                return NONE;
            }
            tape.advance();
            if (!tape.isName()) {
                tape.fail(FAULT_PLACE);
                return NONE;
            }
            int a = g.findAttribute(g.side(p, position), tape.content);
            if (a == NONE) {
                tape.fail(FAULT_UNKNOWN);
                return NONE;
            }
            return WIDTH * position + a;
        }

        private boolean positionStands() {
            if (tape.kind != Tape.NUMBER) {
                return tape.fail(FAULT_PLACE);
            }
            return tape.content < g.sides[p] || tape.fail(FAULT_UNKNOWN);
        }

        private boolean readE(int depth) {
            boolean good = readPart(depth);
            for (int more = 0; more < TAPE_MOST && good; more++) {
                int op = operatorHere();
                if (op == NONE) {
                    return true;
                }
                tape.advance();
                good = readPart(depth);
                g.addCode(CODE_OP + op);
            }
            return good;
        }

        private boolean readPart(int depth) {
            if (tape.isSignOf('(')) {
                return readBracket(depth, 1);
            }
            if (tape.isWordOf(WORD_IF)) {
                tape.advance();
                boolean good = readBracket(depth, 3);
                g.addCode(CODE_IF);
                return good;
            }
            return readLeaf();
        }

        private boolean readBracket(int depth, int many) {
            if (!tape.isSignOf('(')) {
                return tape.fail(FAULT_PLACE);
            }
            if (depth >= BRACKETS_MOST) {
                return tape.fail(FAULT_MANY);
            }
            tape.advance();
            boolean good = readE(depth + 1);
            for (int more = 1; more < many && good; more++) {
                good = tape.takeSign(',') && readE(depth + 1);
            }
            return good && tape.takeSign(')');
        }

        private boolean readLeaf() {
            boolean own = tape.isWordOf(WORD_NUM);
            if (!own && tape.kind != Tape.NUMBER) {
                return tape.fail(FAULT_PLACE);
            }
            boolean asks = !own && tape.pointFollows();
            if (asks && !positionStands()) {
                return false;
            }
            if (parts >= PARTS_MOST) {
                return tape.fail(FAULT_MANY);
            }
            parts++;
            int what = own ? CODE_NUM : (int) tape.content;
            if (asks) {
                int on = seekOcc();
                if (on == NONE) {
                    return false;
                }
                g.addAsk(p, occ, on);
                what = CODE_OCC + on;
            }
            if (own) {
                g.askOwn[p] |= 1 << occ;
            }
            g.addCode(what);
            tape.advance();
            return true;
        }

        private int operatorHere() {
            if (tape.kind == Tape.WORD) {
                return tape.content == WORD_MAX ? OP_MAX : tape.content == WORD_MIN ? OP_MIN : NONE;
            }
            if (tape.kind != Tape.SIGN) {
                return NONE;
            }
            switch ((int) tape.content) {
                case '+':
                    return OP_ADD;
                case '-':
                    return OP_SUB;
                case '*':
                    return OP_MUL;
                case '|':
                    return OP_OR;
                case '&':
                    return OP_AND;
                case '<':
                    return OP_LESS;
                default:
                    return NONE;
            }
        }
    }

    /** What is induced for symbols and closed in productions, and the first circle that may be. */
    private static final class Hanging {
        final int[] among = new int[SYMBOLS_MOST * WIDTH];
        final int[] closed = new int[PRODUCTIONS_MOST * OCCS];
        // What hangs on itself, closed, is induced on itself: no circle has more than the OCC it begins with.
        int circleProduction;
        int circleOcc;

        void find(Grammar g) {
            Arrays.fill(among, 0);
            boolean more = true;
            // Each round but the last brings a pair of attributes, of 64 for each symbol.
            for (int round = 0; round <= SYMBOLS_MOST * WIDTH * WIDTH && more; round++) {
                more = false;
                for (int p = 0; p < g.prods; p++) {
                    layRows(g, p);
                    close(closed, OCCS * p, WIDTH * g.sides[p]);
                    more |= gather(g, p);
                }
            }
            findCircle(g);
        }

        /** Closes rows of which the bits are rows: what hangs on one hangs on all that it hangs on. */
        static void close(int[] rows, int from, int many) {
            for (int over = 0; over < many; over++) {
                int reached = rows[from + over];
                for (int i = 0; i < many && reached != 0; i++) {
                    if ((rows[from + i] >>> over & 1) != 0) {
                        rows[from + i] |= reached;
                    }
                }
            }
        }

        private void layRows(Grammar g, int p) {
            for (int occ = 0; occ < WIDTH * g.sides[p]; occ++) {
                int position = occ / WIDTH;
                int inside = among[WIDTH * g.side(p, position) + occ % WIDTH];
                closed[OCCS * p + occ] = g.asks[OCCS * p + occ] | inside << WIDTH * position;
            }
        }

        private boolean gather(Grammar g, int p) {
            boolean more = false;
            for (int occ = 0; occ < WIDTH * g.sides[p]; occ++) {
                int position = occ / WIDTH;
                int row = WIDTH * g.side(p, position) + occ % WIDTH;
                int all = among[row] | closed[OCCS * p + occ] >>> WIDTH * position & 255;
                more |= all != among[row];
                among[row] = all;
            }
            return more;
        }

        /** The first OCC of a production that hangs on itself in such rows. */
        static int firstRound(int[] rows, int from, int many) {
            for (int occ = 0; occ < many; occ++) {
                if ((rows[from + occ] >>> occ & 1) != 0) {
                    return occ;
                }
            }
            return NONE;
        }

        private void findCircle(Grammar g) {
            circleOcc = NONE;
            for (int p = 0; p < g.prods && circleOcc == NONE; p++) {
                circleProduction = p;
                circleOcc = firstRound(closed, OCCS * p, WIDTH * g.sides[p]);
            }
        }
    }

    /** The visits of each symbol, whether all productions bear them, and the plans then. */
    private static final class Plans {
        // 16 rules, 5 visits of each of 3 children, 5 times to leave.
        private static final int STEPS_MOST = 36;
        private static final int LEAVE = 1000;
        private static final int RULE = 100;
        private static final int CHILD = 10;

        final int[] count = new int[SYMBOLS_MOST];
        final int[] when = new int[SYMBOLS_MOST * WIDTH];
        final int[] wide = new int[PRODUCTIONS_MOST * OCCS];
        int block;
        private final int[] steps = new int[PRODUCTIONS_MOST * STEPS_MOST];
        private final int[] done = new int[SIDES_MOST];
        private int known;
        final int[] length = new int[PRODUCTIONS_MOST];
        final int[] visitSteps = new int[PRODUCTIONS_MOST];
        final int[] ruleSteps = new int[PRODUCTIONS_MOST];

        void find(Grammar g, Hanging hanging) {
            for (int s = 0; s < g.symbols; s++) {
                boolean loops = Hanging.firstRound(hanging.among, WIDTH * s, WIDTH) != NONE;
                count[s] = loops ? 0 : orderOf(g, hanging, s);
            }
            block = NONE;
            for (int p = g.prods - 1; p >= 0; p--) {
                widen(g, hanging, p);
                if (Hanging.firstRound(wide, OCCS * p, WIDTH * g.sides[p]) != NONE) {
                    block = p;
                }
            }
            for (int p = 0; p < g.prods && block == NONE; p++) {
                lay(g, p);
            }
        }

        boolean fit(Grammar g, int p) {
            for (int position = 0; position < g.sides[p]; position++) {
                if (count[g.side(p, position)] == 0) {
                    return false;
                }
            }
            return true;
        }

        /** The attributes of a symbol that come in a visit, as bits. */
        int during(Grammar g, int s, int visit) {
            int bits = 0;
            for (int a = 0; a < g.ins[s] + g.outs[s]; a++) {
                if (when[WIDTH * s + a] == visit) {
                    bits |= 1 << a;
                }
            }
            return bits;
        }

        private int orderOf(Grammar g, Hanging hanging, int s) {
            int left = g.insOf(s) | g.outsOf(s);
            int sets = 0;
            // Of two sets one at least takes an attribute.
            for (int set = 0; set <= 2 * WIDTH && left != 0; set++) {
                int kind = set % 2 == 0 ? g.outsOf(s) : g.insOf(s);
                left = fill(hanging, s, left, kind, set);
                sets++;
            }
            int visits = Math.max(1, (sets + 1) / 2);
            for (int a = 0; a < g.ins[s] + g.outs[s]; a++) {
                when[WIDTH * s + a] = visits - when[WIDTH * s + a] / 2;
            }
            return visits;
        }

        // Notes the set in when, and gives what is in no set then.
        private int fill(Hanging hanging, int s, int before, int kind, int set) {
            int left = before;
            boolean more = true;
            for (int round = 0; round <= WIDTH && more; round++) {
                more = false;
                for (int a = 0; a < WIDTH; a++) {
                    if (((left & kind) >>> a & 1) != 0 && !isAwaited(hanging, s, left, a)) {
                        when[WIDTH * s + a] = set;
                        left &= ~(1 << a);
                        more = true;
                    }
                }
            }
            return left;
        }

        private boolean isAwaited(Hanging hanging, int s, int left, int a) {
            for (int b = 0; b < WIDTH; b++) {
                if ((left >>> b & 1) != 0 && (hanging.among[WIDTH * s + b] >>> a & 1) != 0) {
                    return true;
                }
            }
            return false;
        }

        private void widen(Grammar g, Hanging hanging, int p) {
            for (int occ = 0; occ < WIDTH * g.sides[p]; occ++) {
                int position = occ / WIDTH;
                int s = g.side(p, position);
                boolean there = count[s] > 0 && occ % WIDTH < g.ins[s] + g.outs[s];
                int ahead = there ? aheadOf(g, s, occ % WIDTH) : 0;
                wide[OCCS * p + occ] = hanging.closed[OCCS * p + occ] | ahead << WIDTH * position;
            }
            Hanging.close(wide, OCCS * p, WIDTH * g.sides[p]);
        }

        private int aheadOf(Grammar g, int s, int a) {
            int bits = 0;
            int visit = when[WIDTH * s + a];
            for (int b = 0; b < g.ins[s] + g.outs[s]; b++) {
                int other = when[WIDTH * s + b];
                if (other < visit || other == visit && a >= g.ins[s] && b < g.ins[s]) {
                    bits |= 1 << b;
                }
            }
            return bits;
        }

        int step(int p, int i) {
            return i >= 0 && i < STEPS_MOST ? steps[STEPS_MOST * p + i] : NONE;
        }

        private void lay(Grammar g, int p) {
            length[p] = 0;
            visitSteps[p] = 0;
            ruleSteps[p] = 0;
            int left = g.side(p, 0);
            int last = count[left];
            int visit = 1;
            known = during(g, left, 1) & g.insOf(left);
            Arrays.fill(done, 0);
            for (int n = 0; n < STEPS_MOST; n++) {
                int outs = during(g, left, visit) & g.outsOf(left);
                if (visit < last && (outs & ~known) == 0) {
                    add(p, LEAVE + visit);
                    visit++;
                    known |= during(g, left, visit) & g.insOf(left);
                } else if (!addRule(g, p) && !addVisit(g, p)) {
                    break;
                }
            }
            add(p, LEAVE + last);
        }

        private void add(int p, int what) {
            if (length[p] < STEPS_MOST) {
                steps[STEPS_MOST * p + length[p]] = what;
                length[p]++;
            }
        }

        private boolean addRule(Grammar g, int p) {
            int open = g.tellable[p] & ~known;
            for (int occ = 0; occ < OCCS; occ++) {
                if ((open >>> occ & 1) != 0 && (g.asks[OCCS * p + occ] & ~known) == 0) {
                    add(p, RULE + occ);
                    ruleSteps[p]++;
                    known |= 1 << occ;
                    return true;
                }
            }
            return false;
        }

        private boolean addVisit(Grammar g, int p) {
            for (int position = 1; position < g.sides[p]; position++) {
                int s = g.side(p, position);
                int bits = during(g, s, done[position] + 1);
                int asked = (bits & g.insOf(s)) << WIDTH * position;
                if (done[position] < count[s] && (asked & ~known) == 0) {
                    done[position]++;
                    add(p, CHILD * position + done[position]);
                    visitSteps[p]++;
                    known |= bits << WIDTH * position;
                    return true;
                }
            }
            return false;
        }
    }

    /** What trees make a symbol's outs hang on, found round by round, and the first real circle. */
    private static final class Shades {
        private final int[] found = new int[SYMBOLS_MOST * SHADES_MOST];
        private final int[] have = new int[SYMBOLS_MOST];
        private final int[] old = new int[SYMBOLS_MOST];
        private final int[] row = new int[OCCS];
        final int[] count = new int[SYMBOLS_MOST];
        private boolean known;
        private boolean circles;
        int rounds;
        int circleRound;
        int circleTotal;
        boolean overflow;

        void forget() {
            known = false;
        }

        /** Whether a symbol had more than can be told no later than a circle was found. */
        boolean unsure() {
            return overflow && (circleRound == 0 || circleRound == rounds);
        }

        int total() {
            int sum = 0;
            for (int s = 0; s < SYMBOLS_MOST; s++) {
                sum += count[s];
            }
            return sum;
        }

        // Sought once for a grammar, when it is first asked for. Behind a symbol's thirteenth shade nothing can be told:
        // a circle of that round, too, would come too late.
        void seek(Grammar g) {
            if (known) {
                return;
            }
            known = true;
            begin();
            boolean more = true;
            // Each round but the last brings a shade.
            for (int round = 1; round <= SYMBOLS_MOST * SHADES_MOST + 1 && more && !overflow; round++) {
                int before = total();
                goRound(g, round);
                rounds = round;
                if (circles && circleRound == 0) {
                    circleRound = round;
                    circleTotal = total();
                }
                more = total() > before;
            }
        }

        private void begin() {
            Arrays.fill(count, 0);
            circles = false;
            overflow = false;
            circleRound = 0;
        }

        private void goRound(Grammar g, int round) {
            for (int s = 0; s < SYMBOLS_MOST; s++) {
                old[s] = have[s];
                have[s] = count[s];
            }
            for (int p = 0; p < g.prods; p++) {
                if (g.children(p) > 0) {
                    castEach(g, p);
                } else if (round == 1) {
                    cast(g, p, 0, 0, 0);
                }
            }
        }

        private void castEach(Grammar g, int p) {
            for (int i = 0; i < choices(g, p, 1) && !overflow; i++) {
                for (int j = 0; j < choices(g, p, 2) && !overflow; j++) {
                    for (int k = 0; k < choices(g, p, 3) && !overflow; k++) {
                        // What is old at all positions was cast in an earlier round.
                        if (isNew(g, p, 1, i) || isNew(g, p, 2, j) || isNew(g, p, 3, k)) {
                            cast(g, p, i, j, k);
                        }
                    }
                }
            }
        }

        private int choices(Grammar g, int p, int position) {
            return position < g.sides[p] ? have[g.side(p, position)] : 1;
        }

        private boolean isNew(Grammar g, int p, int position, int i) {
            return position < g.sides[p] && i >= old[g.side(p, position)];
        }

        private void cast(Grammar g, int p, int i, int j, int k) {
            System.arraycopy(g.asks, OCCS * p, row, 0, OCCS);
            layShade(g, p, 1, i);
            layShade(g, p, 2, j);
            layShade(g, p, 3, k);
            Hanging.close(row, 0, WIDTH * g.sides[p]);
            circles |= Hanging.firstRound(row, 0, WIDTH * g.sides[p]) != NONE;
            int s = g.side(p, 0);
            int shade = 0;
            for (int out = 0; out < g.outs[s]; out++) {
                shade |= (row[g.ins[s] + out] & g.insOf(s)) << SAME_MOST * out;
            }
            keep(s, shade);
        }

        private void layShade(Grammar g, int p, int position, int i) {
            if (position >= g.sides[p]) {
                return;
            }
            int s = g.side(p, position);
            int shade = found[SHADES_MOST * s + i];
            for (int out = 0; out < g.outs[s]; out++) {
                int on = shade >>> SAME_MOST * out & 15;
                row[WIDTH * position + g.ins[s] + out] |= on << WIDTH * position;
            }
        }

        private void keep(int s, int shade) {
            for (int i = 0; i < count[s]; i++) {
                if (found[SHADES_MOST * s + i] == shade) {
                    return;
                }
            }
            if (count[s] >= SHADES_MOST) {
                overflow = true;
                return;
            }
            found[SHADES_MOST * s + count[s]] = shade;
            count[s]++;
        }
    }

    /** A tree's nodes, numbered from the root on, each ahead of its children, and their instances. */
    private static final class Tree {
        int count;
        final int[] prod = new int[NODES_MOST];
        final int[] own = new int[NODES_MOST];
        final int[] parent = new int[NODES_MOST];
        final int[] place = new int[NODES_MOST];
        final int[] deep = new int[NODES_MOST];
        final int[] size = new int[NODES_MOST];
        final int[] symbolAt = new int[NODES_MOST];
        final int[] ins = new int[NODES_MOST];
        private final int[] attributes = new int[NODES_MOST];
        final int[] children = new int[NODES_MOST];
        // The node itself and its children, as the positions of its production go.
        private final int[] positions = new int[NODES_MOST * SIDES_MOST];
        final int[] given = new int[SAME_MOST];
        // Of an instance: the node of which the production tells it (NONE: it is given), its OCC there,
        // and the OCCs there that its rule asks.
        final int[] teller = new int[INSTANCES];
        final int[] occ = new int[INSTANCES];
        final int[] asks = new int[INSTANCES];
        private final boolean[] seen = new boolean[INSTANCES];
        private final int[] list = new int[INSTANCES];
        private int listed;

        void clear() {
            count = 0;
            Arrays.fill(given, 0);
        }

        void add(Grammar g, int p, int number, int over, int at) {
            if (count < NODES_MOST) {
                int s = g.side(p, 0);
                prod[count] = p;
                own[count] = number;
                parent[count] = over;
                place[count] = at;
                deep[count] = over == NONE ? 0 : deep[over] + 1;
                symbolAt[count] = s;
                ins[count] = g.ins[s];
                attributes[count] = g.ins[s] + g.outs[s];
                children[count] = g.children(p);
                count++;
            }
        }

        void copyAhead(Grammar g, Tree from, int k) {
            count = 0;
            System.arraycopy(from.given, 0, given, 0, SAME_MOST);
            for (int i = 0; i < k; i++) {
                add(g, from.prod[i], from.own[i], from.parent[i], from.place[i]);
            }
        }

        /** Adds the nodes that follow node k and all below it, for which others came. */
        void copyBehind(Grammar g, Tree from, int k, int came) {
            int went = from.size[k];
            for (int i = k + went; i < from.count; i++) {
                int over = from.parent[i];
                add(g, from.prod[i], from.own[i], over < k ? over : over - went + came, from.place[i]);
            }
        }

        /** Finds, when all nodes are told, what is below each and who tells its instances. */
        void link(Grammar g) {
            Arrays.fill(size, 1);
            for (int k = count - 1; k >= 0; k--) {
                positions[SIDES_MOST * k] = k;
                if (parent[k] != NONE) {
                    positions[SIDES_MOST * parent[k] + place[k]] = k;
                    size[parent[k]] += size[k];
                }
                linkInstances(g, k);
            }
        }

        private void linkInstances(Grammar g, int k) {
            for (int a = 0; a < WIDTH; a++) {
                int i = WIDTH * k + a;
                boolean in = a < ins[k];
                teller[i] = in ? parent[k] : k;
                occ[i] = in ? WIDTH * place[k] + a : a;
                asks[i] = teller[i] == NONE ? 0 : g.asks[OCCS * prod[teller[i]] + occ[i]];
            }
        }

        boolean hasNode(int k) {
            return k >= 0 && k < count;
        }

        boolean hasInstance(int k, int a) {
            return a >= 0 && a < attributes[k];
        }

        int child(int k, int position) {
            return positions[SIDES_MOST * k + position];
        }

        /** The instance of an OCC of the production of node k. */
        int instance(int k, int there) {
            return WIDTH * positions[SIDES_MOST * k + there / WIDTH] + there % WIDTH;
        }

        int need(int from) {
            begin(from);
            for (int n = 0; n < listed && n < INSTANCES; n++) {
                addAll(teller[list[n]], asks[list[n]]);
            }
            return listed;
        }

        int reach(Grammar g, int from) {
            begin(from);
            for (int n = 0; n < listed && n < INSTANCES; n++) {
                int k = list[n] / WIDTH;
                int a = list[n] % WIDTH;
                addAll(k, g.askedBy[OCCS * prod[k] + a]);
                if (parent[k] != NONE) {
                    addAll(parent[k], g.askedBy[OCCS * prod[parent[k]] + WIDTH * place[k] + a]);
                }
            }
            return listed;
        }

        private void begin(int from) {
            clearFlags(seen);
            seen[from] = true;
            list[0] = from;
            listed = 1;
        }

        private void addAll(int k, int occs) {
            for (int there = 0; there < OCCS; there++) {
                if ((occs >>> there & 1) != 0) {
                    int i = instance(k, there);
                    if (!seen[i] && listed < INSTANCES) {
                        seen[i] = true;
                        list[listed] = i;
                        listed++;
                    }
                }
            }
        }
    }

    /** Reads a tree's text, up to its first fault. */
    private static final class TreeReader {
        private Tape tape;
        private Grammar g;
        private Tree t;
        private int behind;

        /** Adds to a tree a node for a place and all below it; so many nodes will follow them. */
        boolean read(Tape from, Grammar rules, Tree into, int parent, int place, int symbol, int follow) {
            tape = from;
            g = rules;
            t = into;
            behind = follow;
            int first = t.count;
            boolean good = readNode(parent, place, symbol);
            int k = first;
            for (int n = 0; n <= NODES_MOST && good; n++) {
                boolean down = t.children[k] > 0;
                k = down ? k : climb(k, first);
                if (k == first && !down) {
                    return tape.kind == Tape.END || tape.fail(FAULT_PLACE);
                }
                good = k != NONE && tape.takeSign(down ? '(' : ',') && (down ? readChild(k, 1) : readNext(k));
                k = t.count - 1;
            }
            return false;
        }

        private boolean readNext(int k) {
            return readChild(t.parent[k], t.place[k] + 1);
        }

        private boolean readChild(int over, int at) {
            return readNode(over, at, g.side(t.prod[over], at));
        }

        private boolean readNode(int parent, int place, int symbol) {
            if (!tape.isName()) {
                return tape.fail(FAULT_PLACE);
            }
            int p = g.findProduction(tape.content);
            if (p == NONE) {
                return tape.fail(FAULT_UNKNOWN);
            }
            boolean tooDeep = parent != NONE && t.deep[parent] + 2 > DEEP_MOST;
            if (tooDeep || t.count + behind >= NODES_MOST) {
                return tape.fail(FAULT_MANY);
            }
            if (symbol != NONE && symbol != g.side(p, 0)) {
                return tape.fail(FAULT_SYMBOL);
            }
            tape.advance();
            boolean told = tape.kind == Tape.NUMBER;
            t.add(g, p, told ? (int) tape.content : 0, parent, place);
            if (told) {
                tape.advance();
            }
            return true;
        }

        // From a node that is whole to the first one over it that is not its parent's last child.
        private int climb(int from, int first) {
            int k = from;
            for (int up = 0; up <= DEEP_MOST && k != first && isLast(k); up++) {
                if (!tape.takeSign(')')) {
                    return NONE;
                }
                k = t.parent[k];
            }
            return k;
        }

        private boolean isLast(int k) {
            return t.place[k] == t.children[t.parent[k]];
        }
    }

    /** The groups of instances that hang on one another, none ahead of what it hangs on. */
    private static final class Knots {
        private final int[] order = new int[INSTANCES];
        private final int[] from = new int[INSTANCES + 1];
        final int[] groupOf = new int[INSTANCES];
        final boolean[] tied = new boolean[INSTANCES];
        int groups;
        int many;
        private Tree t;
        private final int[] mark = new int[INSTANCES];
        private final int[] low = new int[INSTANCES];
        private final int[] open = new int[INSTANCES];
        private int opened;
        private final int[] path = new int[INSTANCES];
        private final int[] rest = new int[INSTANCES];
        private int steps;
        private int time;
        private final int[] lengths = new int[INSTANCES];

        int size(int group) {
            return from[group + 1] - from[group];
        }

        int first(int group) {
            return order[from[group]];
        }

        int member(int group, int i) {
            return order[from[group] + i];
        }

        void find(Tree tree) {
            t = tree;
            groups = 0;
            many = 0;
            opened = 0;
            time = 0;
            from[0] = 0;
            Arrays.fill(mark, 0);
            Arrays.fill(groupOf, NONE);
            for (int i = 0; i < WIDTH * t.count; i++) {
                if (t.hasInstance(i / WIDTH, i % WIDTH) && mark[i] == 0) {
                    explore(i);
                }
            }
        }

        // Tarjan's search with its own path: a tree's instances may hang deeper than calls may stand.
        private void explore(int start) {
            steps = 0;
            enter(start);
            for (int n = 0; n < INSTANCES * (OCCS + 2) && steps > 0; n++) {
                int i = path[steps - 1];
                int left = rest[steps - 1];
                if (left == 0) {
                    leave(i);
                } else {
                    rest[steps - 1] = left & left - 1;
                    look(i, t.instance(t.teller[i], Integer.numberOfTrailingZeros(left)));
                }
            }
        }

        private void enter(int i) {
            time++;
            mark[i] = time;
            low[i] = time;
            open[opened] = i;
            opened++;
            path[steps] = i;
            rest[steps] = t.asks[i];
            steps++;
        }

        private void look(int i, int on) {
            if (mark[on] == 0) {
                enter(on);
            } else if (groupOf[on] == NONE) {
                low[i] = Math.min(low[i], mark[on]);
            }
        }

        private void leave(int i) {
            steps--;
            if (steps > 0) {
                low[path[steps - 1]] = Math.min(low[path[steps - 1]], low[i]);
            }
            if (low[i] == mark[i]) {
                bind(i);
            }
        }

        private void bind(int last) {
            int end = from[groups];
            boolean more = true;
            for (int n = 0; n < INSTANCES && more && opened > 0; n++) {
                opened--;
                int i = open[opened];
                groupOf[i] = groups;
                insert(i, from[groups], end);
                end++;
                more = i != last;
            }
            tied[groups] = end - from[groups] > 1 || hangsOnItself(last);
            many += tied[groups] ? 1 : 0;
            groups++;
            from[groups] = end;
        }

        // Keeps a group by nodes, then attributes: so its turns go.
        private void insert(int i, int begin, int end) {
            int at = end;
            for (; at > begin && order[at - 1] > i; at--) {
                order[at] = order[at - 1];
            }
            order[at] = i;
        }

        private boolean hangsOnItself(int i) {
            return (t.asks[i] >>> t.occ[i] & 1) != 0;
        }

        /** Knots break every row: what hangs on one begins again. */
        int longestRow() {
            int most = 0;
            for (int group = 0; group < groups; group++) {
                int i = first(group);
                lengths[i] = tied[group] ? 0 : 1 + longestAhead(i);
                most = Math.max(most, lengths[i]);
            }
            return most;
        }

        private int longestAhead(int i) {
            int most = 0;
            for (int there = 0; there < OCCS; there++) {
                if ((t.asks[i] >>> there & 1) != 0) {
                    int on = t.instance(t.teller[i], there);
                    most = Math.max(most, tied[groupOf[on]] ? 0 : lengths[on]);
                }
            }
            return most;
        }
    }

    /** The values of a tree's instances. */
    private static final class Work {
        // Six brackets, each with a left operand and two values of an if ahead, and the two of the last.
        private static final int PILE_MOST = 20;

        final Knots knots = new Knots();
        final int[] values = new int[INSTANCES];
        final int[] turns = new int[INSTANCES];
        final boolean[] unsettled = new boolean[INSTANCES];
        private final int[] pile = new int[PILE_MOST];
        private Tree t;
        private Grammar g;

        void begin(Grammar rules, Tree tree) {
            g = rules;
            t = tree;
        }

        void reckonAll() {
            for (int group = 0; group < knots.groups; group++) {
                reckonGroup(group);
            }
        }

        /** What the group hangs on besides must be reckoned. */
        void reckonGroup(int group) {
            if (!knots.tied[group]) {
                int i = knots.first(group);
                values[i] = reckon(i);
                return;
            }
            int size = knots.size(group);
            for (int m = 0; m < size; m++) {
                values[knots.member(group, m)] = 0;
            }
            boolean more = true;
            for (int turn = 1; turn <= TURNS_MOST && more; turn++) {
                more = false;
                for (int m = 0; m < size; m++) {
                    int i = knots.member(group, m);
                    int was = values[i];
                    values[i] = reckon(i);
                    more |= values[i] != was;
                }
                turns[group] = turn;
            }
            unsettled[group] = more;
        }

        private int reckon(int i) {
            int k = t.teller[i];
            if (k == NONE) {
                return t.given[i % WIDTH];
            }
            int rule = OCCS * t.prod[k] + t.occ[i];
            int top = 0;
            pile[0] = 0;
            for (int at = g.codeFrom[rule]; at < g.codeTo[rule]; at++) {
                int what = g.code[at];
                if (what < CODE_OP && top < PILE_MOST) {
                    pile[top] = load(k, what);
                    top++;
                } else if (what == CODE_IF && top >= 3) {
                    top -= 2;
                    pile[top - 1] = pile[top - 1] != 0 ? pile[top] : pile[top + 1];
                } else if (top >= 2) {
                    top--;
                    pile[top - 1] = join(what - CODE_OP, pile[top - 1], pile[top]);
                }
            }
            return pile[0];
        }

        private int load(int k, int what) {
            if (what == CODE_NUM) {
                return t.own[k];
            }
            return what < CODE_OCC ? what : values[t.instance(k, what - CODE_OCC)];
        }

        private static int join(int op, int a, int b) {
            switch (op) {
                case OP_ADD:
                    return a + b;
                case OP_SUB:
                    return a - b;
                case OP_MUL:
                    return a * b;
                case OP_OR:
                    return a | b;
                case OP_AND:
                    return a & b;
                case OP_LESS:
                    return a < b ? 1 : 0;
                case OP_MAX:
                    return Math.max(a, b);
                default:
                    return Math.min(a, b);
            }
        }
    }

    /** What a change makes to be reckoned anew, and what is another one then. */
    private static final class Change {
        private final boolean[] marked = new boolean[INSTANCES];
        private final boolean[] other = new boolean[INSTANCES];
        private final boolean[] gone = new boolean[INSTANCES];
        // For which node ahead of the change a node stands, NONE for a new one.
        private final int[] stood = new int[NODES_MOST];
        private int first;
        private int went;
        int reckoned;
        int altered;

        void begin(int nodes) {
            clearFlags(marked);
            for (int k = 0; k < nodes; k++) {
                stood[k] = k;
            }
        }

        void beginGraft(int nodes, int k, int goes, int comes) {
            begin(k + 1);
            first = k;
            went = goes;
            for (int i = k + 1; i < k + comes && i < NODES_MOST; i++) {
                stood[i] = NONE;
            }
            for (int i = k + goes; i < nodes && i - goes + comes < NODES_MOST; i++) {
                stood[i - goes + comes] = i;
            }
        }

        void mark(int i) {
            marked[i] = true;
        }

        void markAskingOwn(Grammar g, Tree t, int k) {
            int asking = g.askOwn[t.prod[k]];
            for (int occ = 0; occ < OCCS; occ++) {
                if ((asking >>> occ & 1) != 0) {
                    mark(t.instance(k, occ));
                }
            }
        }

        void markGraft(Tree before, Tree after, Knots knots) {
            findGone(before, knots);
            for (int k = 0; k < after.count; k++) {
                for (int a = 0; a < WIDTH; a++) {
                    if (after.hasInstance(k, a) && !isNew(k)) {
                        boolean out = k == first && a >= after.ins[k];
                        marked[WIDTH * k + a] = out || gone[knots.groupOf[WIDTH * stood[k] + a]];
                    }
                }
            }
        }

        private void findGone(Tree before, Knots knots) {
            clearFlags(gone);
            for (int i = WIDTH * first; i < WIDTH * (first + went); i++) {
                if (before.hasInstance(i / WIDTH, i % WIDTH)) {
                    int group = knots.groupOf[i];
                    gone[group] = knots.tied[group];
                }
            }
        }

        private boolean isNew(int k) {
            return stood[k] == NONE;
        }

        /** Goes through the groups: each is reckoned anew, or it is the one that was there ahead of the change. */
        void reckon(Tree t, Work after, Work before) {
            clearFlags(other);
            reckoned = 0;
            altered = 0;
            for (int group = 0; group < after.knots.groups; group++) {
                if (isAnew(t, after.knots, group)) {
                    after.reckonGroup(group);
                    count(group, after, before);
                } else {
                    keep(group, after, before);
                }
            }
        }

        private boolean isAnew(Tree t, Knots knots, int group) {
            for (int m = 0; m < knots.size(group); m++) {
                int i = knots.member(group, m);
                if (marked[i] || isNew(i / WIDTH) || hangsOnOther(t, i)) {
                    return true;
                }
            }
            return false;
        }

        private boolean hangsOnOther(Tree t, int i) {
            int k = t.teller[i];
            int asked = t.asks[i];
            for (int occ = 0; occ < OCCS; occ++) {
                if ((asked >>> occ & 1) != 0 && other[t.instance(k, occ)]) {
                    return true;
                }
            }
            return false;
        }

        private void count(int group, Work after, Work before) {
            for (int m = 0; m < after.knots.size(group); m++) {
                int i = after.knots.member(group, m);
                reckoned++;
                other[i] = isNew(i / WIDTH) || after.values[i] != before.values[stoodFor(i)];
                altered += other[i] ? 1 : 0;
            }
        }

        private void keep(int group, Work after, Work before) {
            for (int m = 0; m < after.knots.size(group); m++) {
                int i = after.knots.member(group, m);
                after.values[i] = before.values[stoodFor(i)];
            }
            int was = before.knots.groupOf[stoodFor(after.knots.first(group))];
            after.turns[group] = before.turns[was];
            after.unsettled[group] = before.unsettled[was];
        }

        // Of an instance whose node is no new one.
        private int stoodFor(int i) {
            return WIDTH * stood[i / WIDTH] + i % WIDTH;
        }
    }
}
