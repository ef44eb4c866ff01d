/** Promises 4 and 5: a grammar's text, its faults and their places. */
public final class GrammarFaultTest {
    private static final String S = "symbol s in a out b;";
    private static final String P = S + "prod p:s s;";

    public static void main(String[] args) {
        Check c = new Check("GrammarFaultTest");
        tokens(c);
        places(c);
        names(c);
        rules(c);
        tooMany(c);
        expressions(c);
        leastKind(c);
        keeping(c);
        c.end();
    }

    private static String times(String text, int n) {
        return text.repeat(n);
    }

    private static void tokens(Check c) {
        c.grammarFault("Symbol s;", 1, 0);
        c.grammarFault("symbol s\t;", 1, 8);
        c.grammarFault("symbol s\r;", 1, 8);
        c.grammarFault("symbol \u00e9;", 1, 7);
        c.grammarFault("symbol s\0;", 1, 8);
        c.grammarFault("symbol abcdefghi;", 1, 7);
        c.grammarFault("symbols s;", 2, 0);
        c.grammarFault(P + "rule p 0.b=12345;", 1, P.length() + 11);
        c.grammarFault(P + "rule p 0.b=1>2;", 1, P.length() + 12);
        c.fresh();
        c.due("a name of eight letters", c.grammar("symbol abcdefgh;"), 0);
        c.due("lines broken by byte 10", c.grammar("\n symbol\ns  in\na ;\n\n"), 0);
        c.due("no blank where none is asked", c.grammar(P + "rule p 0.b=0001max 9999min num;"), 1);
    }

    private static void places(Check c) {
        c.grammarFault("", 2, 0);
        c.grammarFault("   ", 2, 3);
        c.grammarFault(";", 2, 0);
        c.grammarFault("symbol", 2, 6);
        c.grammarFault("symbol  ", 2, 8);
        c.grammarFault("symbol s", 2, 8);
        c.grammarFault("symbol s; s", 2, 10);
        c.grammarFault("symbol in;", 2, 7);
        c.grammarFault("symbol 1;", 2, 7);
        c.grammarFault("symbol s t;", 2, 9);
        c.grammarFault("symbol s in;", 2, 11);
        c.grammarFault("symbol s in out b;", 2, 12);
        c.grammarFault("symbol s in a out;", 2, 17);
        c.grammarFault("symbol s out b in a;", 2, 15);
        c.grammarFault("symbol s in a in b;", 2, 14);
        c.grammarFault(S + "prod s;", 2, S.length() + 6);
        c.grammarFault(S + "prod p s;", 2, S.length() + 7);
        c.grammarFault(S + "prod p:;", 2, S.length() + 7);
        c.grammarFault(S + "prod if:s;", 2, S.length() + 5);
        c.grammarFault(S + "prod p:s,s;", 2, S.length() + 8);
        c.grammarFault(P + "rule p b=0;", 2, P.length() + 7);
        c.grammarFault(P + "rule p 0 b=0;", 2, P.length() + 9);
        c.grammarFault(P + "rule p 0.num=0;", 2, P.length() + 9);
        c.grammarFault(P + "rule p 0.b 0;", 2, P.length() + 11);
        c.grammarFault(P + "rule p 0.b=;", 2, P.length() + 11);
        c.grammarFault(P + "rule p 0.b=0", 2, P.length() + 12);
        c.grammarFault(P + "rule p 0.b=0 symbol t;", 2, P.length() + 13);
    }

    private static void names(Check c) {
        c.grammarFault("prod p:s;", 3, 7);
        c.grammarFault(S + "prod p:s t;", 3, S.length() + 9);
        c.grammarFault("rule p 0.a=1;", 3, 5);
        c.grammarFault(P + "rule s 0.b=1;", 3, P.length() + 5);
        c.grammarFault(P + "rule p 2.b=1;", 3, P.length() + 7);
        c.grammarFault(P + "rule p 2", 3, P.length() + 7);
        c.grammarFault(P + "rule p 0.c=1;", 3, P.length() + 9);
        c.grammarFault(P + "rule p 0.b=2.a;", 3, P.length() + 11);
        c.grammarFault(P + "rule p 0.b=1.c;", 3, P.length() + 13);
        c.grammarFault("symbol s;symbol s;", 4, 16);
        c.grammarFault("symbol s in a a;", 4, 14);
        c.grammarFault("symbol s in a out a;", 4, 18);
        c.grammarFault("symbol s out a b a;", 4, 17);
        c.grammarFault(P + "prod p:s;", 4, P.length() + 5);
        c.fresh();
        c.due("one name for a symbol, its attribute and a production",
                c.grammar("symbol s in s out t;symbol t in s;prod s:s t;prod t:t;"), 2);
    }

    private static void rules(Check c) {
        c.grammarFault(P + "rule p 0.a=1;", 5, P.length() + 9);
        c.grammarFault(P + "rule p 1.b=1;", 5, P.length() + 9);
        c.grammarFault(P + "rule p 0.b=1;rule p 0.b=1;", 5, P.length() + 22);
        c.grammarFault(P + "rule p 0.b=1;rule p 00.b=1;", 5, P.length() + 23);
        c.fresh();
        c.due("both that can be told", c.grammar(P + "rule p 0.b=1;rule p 01.a=1;"), 1);
        c.due("many(2)", c.x.many(2), 2);
    }

    private static void tooMany(Check c) {
        StringBuilder eight = new StringBuilder();
        for (char s = 'a'; s < 'i'; s++) {
            eight.append("symbol ").append(s).append(';');
        }
        c.fresh();
        c.due("eight symbols", c.grammar(eight.toString()), 0);
        c.due("many(0)", c.x.many(0), 8);
        c.grammarFault(eight + "symbol a;", 6, eight.length());
        c.grammarFault(eight + "symbol ?", 6, eight.length());
        StringBuilder twelve = new StringBuilder(S);
        for (char p = 'a'; p < 'm'; p++) {
            twelve.append("prod ").append(p).append(":s;");
        }
        c.fresh();
        c.due("twelve productions", c.grammar(twelve.toString()), 12);
        c.grammarFault(twelve + "prod m:s;", 6, twelve.length());
        c.fresh();
        c.due("four in, four out", c.grammar("symbol s in a b c d out e f g h;"), 0);
        c.grammarFault("symbol s in a b c d e out f;", 6, 20);
        c.grammarFault("symbol s in a out b c d e f;", 6, 26);
        c.fresh();
        c.due("three children", c.grammar(S + "prod p:s s s s;"), 1);
        c.grammarFault(S + "prod p:s s s s s;", 6, S.length() + 15);
    }

    private static void expressions(Check c) {
        String head = P + "rule p 0.b=";
        int at = head.length();
        c.fresh();
        c.due("24 parts", c.grammar(head + times("1+", 23) + "1.b;"), 1);
        c.due("24 parts, some in brackets", c.grammar(head + times("(1+num)+", 11) + "0.a+1;"), 1);
        c.grammarFault(head + times("1+", 24) + "1;", 6, at + 48);
        c.grammarFault(head + times("1+", 24) + "num;", 6, at + 48);
        c.grammarFault(head + times("1+", 24) + "0.a;", 6, at + 48);
        c.grammarFault(head + "if(" + times("1+", 9) + "1," + times("1+", 9) + "1,1+1+1+1+1);", 6, at + 51);
        c.grammarFault(head + times("1+", 24) + ";", 2, at + 48);
        c.fresh();
        c.due("24 parts of each of two rules",
                c.grammar(head + times("1+", 23) + "1;rule p 1.a=" + times("1+", 23) + "1;"), 1);
        c.due("6 brackets within one another", c.grammar(head + "((((((1))))))+((1));"), 1);
        c.grammarFault(head + "(((((((1)))))));", 6, at + 6);
        c.grammarFault(head + "((((((if(1,2,3)))))));", 6, at + 8);
        c.grammarFault(head + "(((((if(1,(2),3))))));", 6, at + 10);
        c.grammarFault(head + "((1);", 2, at + 4);
        c.grammarFault(head + "(1));", 2, at + 3);
        c.grammarFault(head + "();", 2, at + 1);
        c.grammarFault(head + "if 1;", 2, at + 3);
        c.grammarFault(head + "if(1,2);", 2, at + 6);
        c.grammarFault(head + "if(1,2,3,4);", 2, at + 8);
        c.grammarFault(head + "(1,2);", 2, at + 2);
        c.grammarFault(head + "-1;", 2, at);
        c.grammarFault(head + "1 2;", 2, at + 2);
        c.grammarFault(head + "1+max 2;", 2, at + 2);
        c.grammarFault(head + "a;", 2, at);
        c.grammarFault(head + "0.;", 2, at + 2);
        c.grammarFault(head + "1 num;", 2, at + 2);
    }

    private static void leastKind(Check c) {
        String head = P + "rule p 0.b=";
        int at = head.length();
        // A position that there isn't, and a 25th part.
        c.grammarFault(head + times("1+", 24) + "9.a;", 3, at + 48);
        // The 25th part is ahead of the attribute that there isn't.
        c.grammarFault(head + times("1+", 24) + "1.z;", 6, at + 48);
        // A fifth attribute that was told already.
        c.grammarFault("symbol s in a b c d a;", 4, 20);
        // A fourth child of no such symbol.
        c.grammarFault(S + "prod p:s s s s t;", 3, S.length() + 15);
        c.grammarFault(P + "rule p 7.z=1;", 3, P.length() + 7);
        c.grammarFault(head + "9 . 1;", 3, at);
        c.grammarFault(head + "9 ! 1;", 1, at + 2);
    }

    private static void keeping(Check c) {
        c.fresh();
        c.due("a grammar", c.grammar(P + "prod q:s;rule p 0.b=1;"), 2);
        c.same("fault(0)", c.x.fault(0), 0);
        c.same("fault(1)", c.x.fault(1), -1);
        c.same("fault(2)", c.x.fault(2), -1);
        c.same("fault(-1)", c.x.fault(-1), -1);
        c.due("a tree", c.tree("p(q)"), 2);
        c.refused("another with a fault", c.grammar("symbol x;symbol y;prod r:x y;prod"), 9);
        c.same("fault(0)", c.x.fault(0), 2);
        c.same("fault(1)", c.x.fault(1), 33);
        c.due("the productions stay", c.x.many(1), 2);
        c.due("the symbols stay", c.x.many(0), 1);
        c.due("the tree stays", c.x.many(3), 2);
        c.due("its values stay", c.x.value(0, 1), 1);
        c.refused("a tree with a fault", c.tree("p(q))"), 9);
        c.same("fault(1)", c.x.fault(1), 4);
        c.refused("n above the tape", c.x.grammar(1), 1);
        c.same("fault(1) is that of the latest text read", c.x.fault(1), 4);
        c.x.feed(0, 0, 0, 0, 0);
        c.refused("n below 0", c.x.grammar(-1), 1);
        c.same("the tape stays then", c.feed("symbol x;"), 40);
        c.refused("what is on the tape", c.x.grammar(40), 9);
        c.same("the tape is empty then", c.feed("symbol x in i;prod z:x;  symbol ?"), 40);
        c.due("only the first bytes count", c.x.grammar(24), 1);
        c.due("the tree is gone", c.x.many(3), 0);
        c.refused("no tree", c.x.digest(), 3);
        c.same("the rest of the tape is gone, too", c.x.feed(0, 0, 0, 0, 0), 20);
    }
}
