/** Promises 1 to 5, sentence by sentence at its edges: the tape, how many bytes are a text, fault(), 512 calls. */
public final class TapeEdgesTest {
    private static final String CHAIN = "symbol s in a out b;prod p:s s;prod q:s;rule q 0.b=0.a+num;rule p 1.a=0.a;"
            + "rule p 0.b=1.b;";

    public static void main(String[] args) {
        Check c = new Check("TapeEdgesTest");
        twentyBytes(c);
        highestFirst(c);
        eachByteWhereItIs(c);
        aThousandAndNoMore(c);
        grammarOfAThousand(c);
        treeOfAThousand(c);
        graftOfAThousand(c);
        howManyBytes(c);
        firstBytesOnly(c);
        emptyThen(c);
        faultOfTheLatest(c);
        faultOfOthers(c);
        feedAndFaultHaveNoStatus(c);
        fiveHundredAndTwelve(c);
        c.end();
    }

    private static String blanks(int n) {
        return " ".repeat(n);
    }

    // "Twenty bytes come behind those on the tape .. how many it has"
    private static void twentyBytes(Check c) {
        c.fresh();
        c.same("the first feed", c.x.feed(0, 0, 0, 0, 0), 20);
        c.same("the second feed, whatever it holds", c.x.feed(-1, 1 << 31, Integer.MAX_VALUE, 10, 32), 40);
        c.refused("one byte more than there are", c.x.grammar(41), 1);
        c.refused("all that there are", c.x.grammar(40), 9);
        c.same("ahead of any other", c.x.feed(1, 2, 3, 4, 5), 20);
    }

    // "the highest of each int first"
    private static void highestFirst(Check c) {
        c.fresh();
        c.x.feed(0x73796d62, 0x6f6c2061, 0x62636420, 0x6f757420, 0x6566673b);
        c.due("symbol abcd out efg;", c.x.grammar(20), 0);
        c.due("its out", c.x.symbol(0, 1), 1);
        c.fresh();
        // Behind those on the tape: a word goes on over the edge of two feeds.
        c.x.feed(0x20202020, 0x20202020, 0x20202020, 0x20202020, 0x2073796d);
        c.x.feed(0x626f6c20, 0x783b2020, 0x20202020, 0x20202020, 0x20202020);
        c.due("symbol x; over two feeds", c.x.grammar(40), 0);
    }

    private static void eachByteWhereItIs(Check c) {
        for (int at = 0; at < 40; at++) {
            c.grammarFault(blanks(at) + "?" + blanks(39 - at), 1, at);
            c.grammarFault(blanks(at) + (char) 255 + blanks(39 - at), 1, at);
        }
    }

    // "NONE if there would be more than 1000": nothing comes then, and nothing goes.
    private static void aThousandAndNoMore(Check c) {
        c.fresh();
        String text = "symbol s" + blanks(991) + ";";
        c.same("full by the 50th feed", c.feed(text), 1000);
        c.same("the 51st feed", c.x.feed(-1, -1, -1, -1, -1), -1);
        c.same("the 52nd feed", c.x.feed(0, 0, 0, 0, 0), -1);
        c.refused("the tape has no more", c.x.grammar(1001), 1);
        c.same("a refused call takes nothing", c.x.feed(0, 0, 0, 0, 0), -1);
        c.due("what was there is there still", c.x.grammar(1000), 0);
        c.due("many(0)", c.x.many(0), 1);
        c.same("and is gone then", c.x.feed(0, 0, 0, 0, 0), 20);
        c.fresh();
        c.same("980 bytes", c.feed(blanks(980)), 980);
        c.same("20 more", c.feed(blanks(20)), 1000);
        c.same("20 too many", c.feed(blanks(20)), -1);
    }

    // "a TEXT of at most 1000 bytes"
    private static void grammarOfAThousand(Check c) {
        c.told("symbol s" + blanks(991) + ";", 0);
        c.grammarFault("symbol s" + blanks(992), 2, 1000);
        c.grammarFault("symbol s;" + blanks(990) + "?", 1, 999);
        c.grammarFault("symbol s;" + blanks(987) + "prod", 2, 1000);
        c.fresh();
        c.feed("symbol s" + blanks(991) + ";");
        c.refused("without its last byte", c.x.grammar(999), 9);
        c.same("where the text ends", c.x.fault(1), 999);
        c.told("symbol a out v;prod p:a;rule p 0.v=" + blanks(1000 - 35 - 5) + "9999;", 1);
        c.due("tree", c.tree("p"), 1);
        c.due("the last token of a thousand bytes", c.x.value(0, 0), 9999);
    }

    private static void treeOfAThousand(Check c) {
        c.fresh();
        c.grammar(CHAIN);
        c.due("a tree of 1000 bytes", c.tree("p(q 7" + blanks(994) + ")"), 2);
        c.due("its last number", c.x.node(1, 1), 7);
        c.treeFault("p(q 7" + blanks(995), 2, 1000);
        c.treeFault("p(q 7)" + blanks(993) + ")", 2, 999);
        c.due("the tree stays", c.x.many(3), 2);
    }

    private static void graftOfAThousand(Check c) {
        c.fresh();
        c.grammar(CHAIN);
        c.tree("p(q)");
        c.due("a graft of 1000 bytes", c.graft(1, "p(q" + blanks(992) + "1234)"), 3);
        c.due("its last number", c.x.node(2, 1), 1234);
        c.graftFault(1, "p(q" + blanks(997), 2, 1000);
    }

    // "1: n below 0, above what the tape has"
    private static void howManyBytes(Check c) {
        c.fresh();
        c.feed("symbol s;");
        c.refused("n below 0", c.x.grammar(-1), 1);
        c.refused("n far below 0", c.x.grammar(Integer.MIN_VALUE), 1);
        c.refused("n above what the tape has", c.x.grammar(21), 1);
        c.refused("n far above", c.x.grammar(Integer.MAX_VALUE), 1);
        c.due("n all that the tape has", c.x.grammar(20), 0);
        c.refused("the tape is empty", c.x.grammar(1), 1);
        c.refused("an empty text of an empty tape", c.x.grammar(0), 9);
        c.same("its fault", c.x.fault(0), 2);
        c.same("its place", c.x.fault(1), 0);
        c.grammar(CHAIN);
        c.feed("q");
        c.refused("tree: n below 0", c.x.tree(-1), 1);
        c.refused("tree: n far below 0", c.x.tree(Integer.MIN_VALUE), 1);
        c.refused("tree: n above", c.x.tree(21), 1);
        c.refused("tree: n far above", c.x.tree(Integer.MAX_VALUE), 1);
        c.due("tree: n all there is", c.x.tree(20), 1);
        c.refused("tree: the tape is empty", c.x.tree(1), 1);
        c.refused("tree: an empty text", c.x.tree(0), 9);
        c.same("its fault", c.x.fault(0), 2);
        c.same("its place", c.x.fault(1), 0);
        c.feed("p(q)");
        c.refused("graft: n below 0", c.x.graft(0, -1), 1);
        c.refused("graft: n far below 0", c.x.graft(0, Integer.MIN_VALUE), 1);
        c.refused("graft: n above", c.x.graft(0, 21), 1);
        c.refused("graft: n far above", c.x.graft(0, Integer.MAX_VALUE), 1);
        c.due("graft: n all there is", c.x.graft(0, 20), 2);
        c.refused("graft: the tape is empty", c.x.graft(0, 1), 1);
        c.refused("graft: an empty text", c.x.graft(0, 0), 9);
        c.same("its fault", c.x.fault(0), 2);
        c.same("its place", c.x.fault(1), 0);
    }

    // "The first n bytes of the tape": what is behind them is no part of the text.
    private static void firstBytesOnly(Check c) {
        String text = "symbol abc out de;  symbol b;prod p:abc;";
        int[] faults = {0, 6, 7, 8, 10, 11, 14, 15, 17};
        int[] places = {0, 6, 7, 8, 10, 11, 14, 15, 17};
        for (int n = 0; n < faults.length; n++) {
            c.fresh();
            c.feed(text);
            c.refused("grammar(" + faults[n] + ")", c.x.grammar(faults[n]), 9);
            c.same("fault(0)", c.x.fault(0), 2);
            c.same("fault(1)", c.x.fault(1), places[n]);
        }
        c.fresh();
        c.feed(text);
        c.due("a symbol alone", c.x.grammar(18), 0);
        c.due("many(0)", c.x.many(0), 1);
        c.fresh();
        c.feed(text);
        c.due("all of it", c.x.grammar(40), 1);
        c.fresh();
        // A word or a number that goes on behind the text ends with it.
        c.feed("symbol abcdefghi;");
        c.refused("eight letters", c.x.grammar(15), 9);
        c.same("they are a name", c.x.fault(0), 2);
        c.same("the text's length", c.x.fault(1), 15);
        c.grammar(CHAIN);
        c.feed("q 12345");
        c.due("four digits", c.x.tree(6), 1);
        c.due("they are the number", c.x.node(0, 1), 1234);
        c.feed("p(q)x");
        c.due("graft of the first bytes", c.x.graft(0, 4), 2);
    }

    // "(which is empty then)": with STATUS 0 and with 9.
    private static void emptyThen(Check c) {
        c.fresh();
        c.feed(CHAIN + blanks(300));
        c.due("grammar", c.x.grammar(CHAIN.length()), 2);
        c.refused("nothing is left of the tape", c.x.grammar(1), 1);
        c.feed(blanks(60));
        c.refused("a fault", c.x.grammar(3), 9);
        c.refused("nothing is left of the tape", c.x.grammar(1), 1);
        c.feed("p(q)" + blanks(60));
        c.due("tree", c.x.tree(4), 2);
        c.refused("nothing is left of the tape", c.x.tree(1), 1);
        c.feed("p(q)" + blanks(60));
        c.refused("a fault", c.x.tree(3), 9);
        c.refused("nothing is left of the tape", c.x.tree(1), 1);
        c.feed("q" + blanks(60));
        c.due("graft", c.x.graft(1, 1), 2);
        c.refused("nothing is left of the tape", c.x.graft(1, 1), 1);
        c.feed("x" + blanks(60));
        c.refused("a fault", c.x.graft(1, 1), 9);
        c.refused("nothing is left of the tape", c.x.graft(1, 1), 1);
        c.same("from the first byte on", c.feed("symbol z;"), 20);
        c.due("what comes then is the first", c.x.grammar(9), 0);
    }

    // "Of the latest grammar(), tree(), graft() with STATUS 0 or 9"
    private static void faultOfTheLatest(Check c) {
        c.fresh();
        c.grammar("symbol s; !");
        both(c, "grammar with a fault", 1, 10);
        c.x.grammar(1);
        both(c, "grammar that is refused otherwise", 1, 10);
        c.x.tree(1);
        both(c, "tree that is refused for its number", 1, 10);
        c.x.tree(0);
        both(c, "tree without a grammar", 1, 10);
        c.x.graft(0, 0);
        both(c, "graft without a tree", 1, 10);
        c.x.many(9);
        both(c, "another call", 1, 10);
        c.grammar(CHAIN);
        both(c, "grammar", 0, -1);
        c.tree("p(q");
        both(c, "tree with a fault", 2, 3);
        c.tree("q");
        both(c, "tree", 0, -1);
        c.graft(0, " z");
        both(c, "graft with a fault", 3, 1);
        c.x.graft(9, 0);
        both(c, "graft at no node", 3, 1);
        c.graft(0, "p(q)");
        both(c, "graft", 0, -1);
        c.grammar("symbol s;symbol  s;");
        both(c, "grammar with a fault", 4, 17);
        c.x.put(0, 1);
        c.x.give(0, 1);
        both(c, "other changes", 4, 17);
    }

    private static void both(Check c, String when, int kind, int place) {
        c.same("fault(0) behind a " + when, c.x.fault(0), kind);
        c.same("fault(1) behind a " + when, c.x.fault(1), place);
    }

    // "NONE for others, and ahead of any"
    private static void faultOfOthers(Check c) {
        int[] others = {2, 3, 9, -1, -2, Integer.MAX_VALUE, Integer.MIN_VALUE};
        c.fresh();
        for (int what : others) {
            c.same("fault(" + what + ") ahead of any", c.x.fault(what), -1);
        }
        both(c, "new object", -1, -1);
        c.x.grammar(1);
        c.x.tree(0);
        c.x.graft(0, 0);
        both(c, "call that is refused", -1, -1);
        c.grammar("symbol s");
        for (int what : others) {
            c.same("fault(" + what + ") with a fault", c.x.fault(what), -1);
        }
        c.grammar(CHAIN);
        for (int what : others) {
            c.same("fault(" + what + ") without one", c.x.fault(what), -1);
        }
    }

    // "status(), feed(), fault() have none."
    private static void feedAndFaultHaveNoStatus(Check c) {
        c.fresh();
        int[] statuses = {1, 4, 9, 0};
        for (int status : statuses) {
            switch (status) {
                case 1 -> c.x.many(-1);
                case 4 -> c.x.symbol(0, 0);
                case 9 -> c.x.grammar(0);
                default -> c.x.many(0);
            }
            c.same("status()", c.x.status(), status);
            c.x.feed(1, 2, 3, 4, 5);
            c.same("status() after feed()", c.x.status(), status);
            c.x.fault(0);
            c.x.fault(7);
            c.same("status() after fault()", c.x.status(), status);
            c.same("status() after status()", c.x.status(), status);
        }
        c.feed(blanks(1000));
        c.same("feed() too many", c.x.feed(0, 0, 0, 0, 0), -1);
        c.same("status() after it", c.x.status(), 0);
    }

    // "An object is used for at most 512 calls": the last of them is answered, too.
    private static void fiveHundredAndTwelve(Check c) {
        c.fresh();
        c.feed(CHAIN);
        c.same("grammar", c.x.grammar(CHAIN.length()), 2);
        c.feed("p(p(q 7))");
        c.same("tree", c.x.tree(9), 3);
        int given = 0;
        while (c.left() > 2) {
            c.same("give", c.x.give(0, given + 1), given);
            given++;
        }
        c.same("the 511th call", c.x.value(0, 1), given + 7);
        c.same("the 512th call", c.x.put(2, 9999), 7);
    }
}
