/**
 * Terms 1, promises 4 and 5, sentence by sentence at its edges: the tokens, lines and names of a grammar's text, how
 * many there may be, its rules and its faults. In a text with a fault a ^ stands ahead of the token that has it.
 */
public final class TextEdgesTest {
    private static final String[] KEPT = {"symbol", "prod", "rule", "in", "out", "num", "max", "min", "if"};
    private static final String S = "symbol s in a out b;";
    private static final String P = S + "prod p:s s;";
    private static final String R = P + "rule p 0.b=";

    public static void main(String[] args) {
        Check c = new Check("TextEdgesTest");
        everyByte(c);
        everySign(c);
        blanks(c);
        asLongAsTheyGo(c);
        wordsOfEight(c);
        numbersOfFour(c);
        everyNumber(c);
        numbersAreNoSigns(c);
        oneLineAtLeast(c);
        symbolLines(c);
        prodLines(c);
        ruleLines(c);
        keptWords(c);
        nearlyKept(c);
        toldAhead(c);
        toldAlready(c);
        eightSymbols(c);
        twelveProductions(c);
        fourInFourOut(c);
        threeChildren(c);
        numbered(c);
        occs(c);
        whatRulesTell(c);
        twentyFourParts(c);
        sixBrackets(c);
        firstAlong(c);
        leastKind(c);
        c.end();
    }

    // ---- tokens

    // "TOKENS .. between them blanks (10, 32)", "1 no TOKEN begins so"
    private static void everyByte(Check c) {
        for (int b = 0; b < 256; b++) {
            boolean blank = b == 10 || b == 32;
            boolean token = b >= 'a' && b <= 'z' || b >= '0' && b <= '9' || ";:,.=+-*|&<()".indexOf(b) >= 0;
            c.grammarFault("  " + (char) b, token || blank ? 2 : 1, blank ? 3 : 2);
        }
    }

    // "the SIGNS ; : , . = + - * | & < ( )": those that join PARTS, and those that can't stand there.
    private static void everySign(Check c) {
        for (char sign : "+-*|&<".toCharArray()) {
            c.told(R + "1" + sign + "2;", 1);
            c.grammarFaultAt(2, R + "1" + sign + "^" + sign + "2;");
            c.grammarFaultAt(2, R + "^" + sign + "2;");
        }
        for (char sign : ":,.=(".toCharArray()) {
            c.grammarFaultAt(2, R + "num^" + sign + "2;");
        }
        for (char none : "!\"#$%'/>?@[\\]_`{}~".toCharArray()) {
            c.grammarFaultAt(1, R + "num^" + none + "2;");
        }
    }

    private static void blanks(Check c) {
        String[] tokens = {"symbol", "s", "in", "a", "out", "b", ";", "prod", "p", ":", "s", "s", ";", "rule", "p", "0",
            ".", "b", "=", "if", "(", "1", ".", "b", "<", "9", ",", "num", "max", "2", ",", "3", ")", "min", "4", ";"};
        for (String blank : new String[] {" ", "\n", "  ", "\n\n", " \n "}) {
            c.told(String.join(blank, tokens), 1);
            c.due("its one RULE", c.x.many(2), 1);
            c.told(blank + String.join(blank, tokens) + blank, 1);
        }
        // No blank but where two words or two numbers would be one.
        c.told("symbol s in a out b;prod p:s s;rule p 0.b=if(1.b<9,num max 2,3)min 4;", 1);
        c.told("symbol s in a out b;prod p:s s;rule p 0.b=if(1.b<9,num max2,3)min4;", 1);
    }

    // "TOKENS, as long as they go"
    private static void asLongAsTheyGo(Check c) {
        c.told(R + "1max 2;", 1);
        c.told(R + "1max2min3;", 1);
        c.told("symbol sin;", 0);
        c.due("sin is one NAME, not s and in", c.x.symbol(0, 0), 0);
        c.grammarFaultAt(2, "^symbols;");
        c.grammarFaultAt(2, "symbol s^1;");
        c.grammarFaultAt(2, R + "1 ^maxmin 2;");
        c.grammarFaultAt(2, R + "12 ^3;");
        c.grammarFaultAt(3, P + "rule p ^10.b=1;");
        c.grammarFaultAt(2, R + "num ^num;");
        c.grammarFaultAt(2, R + "^numnum;");
    }

    // "WORDS (1 to 8 small letters; a longer one is no TOKEN)", wherever a WORD can stand
    private static void wordsOfEight(Check c) {
        String at = "abcdefgh";
        String[] texts = {"symbol @;", "symbol s in @;", "symbol s in a @;", "symbol s out @;", "symbol s out b @;",
            S + "prod @:s;", "symbol @;prod p:@;", "symbol s;symbol @;prod p:s @;",
            S + "prod @:s;rule @ 0.b=1;", "symbol s out @;prod p:s;rule p 0.@=1;",
            "symbol s in @ out b;prod p:s;rule p 0.b=0.@;"};
        for (String text : texts) {
            int productions = text.contains("prod") ? 1 : 0;
            c.told(text.replace("@", "z"), productions);
            c.told(text.replace("@", at), productions);
            int first = text.indexOf('@');
            c.grammarFault(text.replace("@", at + "i"), 1, first);
            c.grammarFault(text.substring(0, first) + "abcdefghijklmnopqrstuvwxyz" + text.substring(first + 1), 1, first);
        }
        // All eight letters count, and their order.
        c.told("symbol abcdefgh;symbol abcdefgi;symbol bacdefgh;symbol abcdefg;symbol bcdefgh;", 0);
        c.due("five SYMBOLS", c.x.many(0), 5);
        c.told("symbol a;symbol aa;symbol aaa;symbol aaaaaaa;symbol aaaaaaaa;symbol z;symbol zzzzzzzz;", 0);
        c.grammarFaultAt(1, S + "^prodsssss p:s;");
        c.grammarFaultAt(1, R + "1 ^maxxxxxxx 2;");
    }

    // "NUMBERS (1 to 4 digits; a longer one is none)"
    private static void numbersOfFour(Check c) {
        for (String number : new String[] {"0", "9", "10", "999", "1000", "9999", "0000", "0009"}) {
            c.told("symbol s out b;prod p:s;rule p 0.b=" + number + ";", 1);
            c.due("tree", c.tree("p"), 1);
            c.due("value of " + number, c.x.value(0, 0), Integer.parseInt(number));
        }
        c.grammarFaultAt(1, R + "^10000;");
        c.grammarFaultAt(1, R + "^00000;");
        c.grammarFaultAt(1, R + "1+^99999999999999999999;");
        c.grammarFaultAt(1, P + "rule p ^00000.b=1;");
        c.grammarFaultAt(1, R + "^00001.b;");
        c.told(P + "rule p 0000.b=0001.b;", 1);
        c.due("position 1 by four digits", c.x.hangs(0, 1, 9, 0), 1);
    }

    // Each of them is what it is, and nothing else.
    private static void everyNumber(Check c) {
        for (int number = 0; number <= 9999; number++) {
            if (number % 40 == 0) {
                c.fresh();
            }
            c.same("grammar with " + number, c.grammar("symbol s out v;prod p:s;rule p 0.v=" + number + ";"), 1);
            c.same("tree", c.tree("p"), 1);
            c.same("VALUE", c.x.value(0, 0), number);
        }
    }

    // A NUMBER in the place of a SIGN, of which it is the byte; in the place of a kept WORD.
    private static void numbersAreNoSigns(Check c) {
        c.grammarFaultAt(2, "symbol s ^59 ");
        c.grammarFaultAt(2, "symbol s in a ^59 prod");
        c.grammarFaultAt(2, "symbol s ^302 a;");
        c.grammarFaultAt(2, S + "prod p ^58 s;");
        c.grammarFaultAt(2, S + "prod p:s ^59 ");
        c.grammarFaultAt(2, P + "rule p 0 ^46 b=1;");
        c.grammarFaultAt(2, P + "rule p 0.b ^61 1;");
        c.grammarFaultAt(2, R + "1 ^59 ");
        c.grammarFaultAt(2, R + "1 ^46 b;");
        c.grammarFaultAt(2, R + "9 ^46 b;");
        for (int sign : new int[] {'+', '-', '*', '|', '&', '<'}) {
            c.grammarFaultAt(2, R + "1 ^" + sign + " 2;");
        }
        c.told(R + "294+302;", 1);
        c.told(R + "40+(41);", 1);
        c.grammarFaultAt(2, R + "40 ^1;");
        c.grammarFaultAt(2, R + "(1 ^41 ;");
        c.grammarFaultAt(2, R + "if ^40 1,2,3);");
        c.grammarFaultAt(2, R + "if(1 ^44 2,3);");
        c.grammarFaultAt(2, R + "if(1,2 ^44 3);");
        c.grammarFaultAt(2, R + "if(1,2,3 ^41 ;");
    }

    // ---- lines

    // "LINES, one at least", "(the end: the text's length)"
    private static void oneLineAtLeast(Check c) {
        c.grammarFaultAt(2, "^");
        c.grammarFaultAt(2, " ^");
        c.grammarFaultAt(2, "\n \n^");
        c.grammarFaultAt(2, "^;");
        c.grammarFaultAt(2, "^s;");
        c.grammarFaultAt(2, "^1;");
        c.told("symbol s;", 0);
        c.due("one SYMBOL", c.x.many(0), 1);
        c.due("no PRODUCTION", c.x.many(1), 0);
        c.due("no RULE", c.x.many(2), 0);
        c.grammarFaultAt(2, "symbol s;^;");
        c.grammarFaultAt(2, "symbol s;^in a;");
        c.grammarFaultAt(2, "symbol s; \n^t");
        c.told("symbol s; \n", 0);
    }

    // "symbol NAME [in NAME {NAME}] [out NAME {NAME}] ;"
    private static void symbolLines(Check c) {
        String[] good = {"symbol s;", "symbol s in a;", "symbol s out a;", "symbol s in a out b;",
            "symbol s in a b c d out e f g h;"};
        int[][] many = {{0, 0}, {1, 0}, {0, 1}, {1, 1}, {4, 4}};
        for (int n = 0; n < good.length; n++) {
            c.told(good[n], 0);
            c.due("in of " + good[n], c.x.symbol(0, 0), many[n][0]);
            c.due("out of " + good[n], c.x.symbol(0, 1), many[n][1]);
        }
        for (String text : new String[] {"symbol^", "symbol ^;", "symbol ^1;", "symbol ^in a;", "symbol s^", "symbol s ^a;",
            "symbol s in^", "symbol s in ^;", "symbol s in ^out a;", "symbol s in ^in a;", "symbol s in a^",
            "symbol s in a ^in b;", "symbol s in a out^", "symbol s in a out ^;", "symbol s in a out ^in b;",
            "symbol s out a ^in b;", "symbol s out a ^out b;", "symbol s out a^", "symbol s out a^,b;",
            "symbol s in a^,b;", "symbol s^,t;", "symbol s^:t;", "symbol s ^symbol t;", "symbol s out a ^prod p:s;"}) {
            c.grammarFaultAt(2, text);
        }
    }

    // "prod NAME : SYM {SYM} ;"
    private static void prodLines(Check c) {
        c.told(S + "prod p:s;", 1);
        c.due("no CHILD", c.x.production(0, 1), 0);
        for (String text : new String[] {"prod^", "prod ^;", "prod ^1:s;", "prod p^", "prod p ^;", "prod p ^s;", "prod p:^",
            "prod p:^;", "prod p:^1;", "prod p:^:s;", "prod p:s^", "prod p:s^,s;", "prod p:s ^1;", "prod p:s^:s;",
            "prod p:s ^in;", "prod p:s ^prod q:s;"}) {
            c.grammarFaultAt(2, S + text);
        }
    }

    // "rule PROD OCC = E ;", "OCC: NUMBER . NAME", "E: PART {OP PART}"
    private static void ruleLines(Check c) {
        c.told(P + "rule p 0.b=1;", 1);
        for (String text : new String[] {"rule^", "rule ^;", "rule ^1", "rule p^", "rule p ^;", "rule p ^b", "rule p ^.b",
            "rule p 0^", "rule p 0^;", "rule p 0 ^b", "rule p 0^=1", "rule p 0.^", "rule p 0.^;", "rule p 0.^0",
            "rule p 0.^.b", "rule p 0.b^", "rule p 0.b^;", "rule p 0.b ^1;", "rule p 0.b ^b=1;", "rule p 0.b=^",
            "rule p 0.b=^;", "rule p 0.b=^=1;", "rule p 0.b=^b;", "rule p 0.b=1^", "rule p 0.b=1 ^2;", "rule p 0.b=1.^;",
            "rule p 0.b=1+^", "rule p 0.b=1+^;", "rule p 0.b=1+^max 2;", "rule p 0.b=1 ^b;",
            "rule p 0.b=1 ^num;", "rule p 0.b=1 ^if(1,2,3);", "rule p 0.b=1^(2);", "rule p 0.b=num^.b;",
            "rule p 0.b=^max 1;", "rule p 0.b=1 max ^min 1;", "rule p 0.b=1 max^;", "rule p 0.b=(^", "rule p 0.b=(^)",
            "rule p 0.b=(1^", "rule p 0.b=(1^;", "rule p 0.b=(1^,2)", "rule p 0.b=(1)^);", "rule p 0.b=(1)^(2);",
            "rule p 0.b=if^", "rule p 0.b=if ^1", "rule p 0.b=if(^", "rule p 0.b=if(^,1,2);", "rule p 0.b=if(1^",
            "rule p 0.b=if(1^)", "rule p 0.b=if(1,2^)", "rule p 0.b=if(1,2,^)", "rule p 0.b=if(1,2,3^",
            "rule p 0.b=if(1,2,3^,4)", "rule p 0.b=if(1^;2", "rule p 0.b=if(1,2,3)^,1", "rule p 0.b=1^)",
            "rule p 0.b=1 ^rule", "rule p 0.b=^rule"}) {
            c.grammarFaultAt(2, P + text);
        }
    }

    // ---- names

    // "NAMES are WORDS but symbol, prod, rule, in, out, num, max, min, if": wherever a NAME must stand.
    private static void keptWords(Check c) {
        for (String kept : KEPT) {
            c.grammarFaultAt(2, "symbol ^" + kept + ";");
            c.grammarFaultAt(2, "symbol s in ^" + kept + ";");
            c.grammarFaultAt(2, "symbol s out ^" + kept + ";");
            c.grammarFaultAt(2, S + "prod ^" + kept + ":s;");
            c.grammarFaultAt(2, S + "prod p:^" + kept + ";");
            c.grammarFaultAt(2, S + "prod p:s ^" + kept + ";");
            c.grammarFaultAt(2, P + "rule ^" + kept + " 0.b=1;");
            c.grammarFaultAt(2, P + "rule p 0.^" + kept + "=1;");
            c.grammarFaultAt(2, R + "0.^" + kept + ";");
        }
    }

    private static void nearlyKept(Check c) {
        for (String kept : KEPT) {
            String shorter = kept.equals("min") ? "mi" : kept.substring(1);
            for (String name : new String[] {kept + "x", shorter}) {
                c.told("symbol " + name + " in " + name + " out y;prod " + name + ":" + name + ";rule " + name + " 0.y=0."
                        + name + ";", 1);
            }
        }
    }

    // "the NAME of a SYMBOL, a PRODUCTION told ahead", "3 a NAME of no such SYMBOL, PRODUCTION, ATTRIBUTE"
    private static void toldAhead(Check c) {
        c.told("symbol s;prod p:s;symbol t;prod q:t s;", 2);
        c.grammarFaultAt(3, "symbol s;prod p:^t;symbol t;");
        c.grammarFaultAt(3, "symbol s;prod p:s ^t;symbol t;");
        c.grammarFaultAt(3, "symbol s;prod p:^p;");
        c.grammarFaultAt(3, "prod p:^s;symbol s;");
        c.grammarFaultAt(3, S + "rule ^p 0.b=1;prod p:s;");
        c.grammarFaultAt(3, S + "prod p:s;rule ^q 0.b=1;prod q:s;");
        c.grammarFaultAt(3, P + "rule ^s 0.b=1;");
        c.grammarFaultAt(3, P + "rule p 0.^s=1;");
        c.grammarFaultAt(3, P + "rule p 0.^c=1;");
        c.grammarFaultAt(3, R + "0.^c;");
        c.grammarFaultAt(3, R + "1.^p;");
        // An ATTRIBUTE of another SYMBOL than is there.
        c.grammarFaultAt(3, "symbol s out v;symbol t out w;prod p:s t;rule p 0.v=1.^v;");
        c.grammarFaultAt(3, "symbol s out v;symbol t in w;prod p:s t;rule p 0.^w=1;");
        c.told("symbol s out v;symbol t in w;prod p:s t;rule p 0.v=1.w;rule p 1.w=0.v;", 1);
    }

    // "4 a NAME told already (of a SYMBOL, a PRODUCTION, an ATTRIBUTE of that SYMBOL)", "(of unlike NAMES)"
    private static void toldAlready(Check c) {
        c.grammarFaultAt(4, "symbol s;symbol ^s;");
        c.grammarFaultAt(4, "symbol s;symbol t;symbol u;symbol ^t in;");
        c.grammarFaultAt(4, "symbol s;prod p:s;prod ^p:s;");
        c.grammarFaultAt(4, "symbol s;prod p:s;prod q:s;prod ^p;");
        c.grammarFaultAt(4, "symbol s in a ^a;");
        c.grammarFaultAt(4, "symbol s in a b c ^a;");
        c.grammarFaultAt(4, "symbol s out a ^a;");
        c.grammarFaultAt(4, "symbol s out a b c ^b;");
        c.grammarFaultAt(4, "symbol s in a out ^a;");
        c.grammarFaultAt(4, "symbol s in a b c d out e f g ^d;");
        c.told("symbol s in a out b;symbol t in a out b;symbol u in b out a;", 0);
        c.told("symbol s in s out p;prod p:s;rule p 0.p=0.s;", 1);
    }

    // ---- how many

    private static String symbols(int n) {
        StringBuilder text = new StringBuilder();
        for (int s = 0; s < n; s++) {
            text.append("symbol ").append((char) ('a' + s)).append(';');
        }
        return text.toString();
    }

    private static String productions(int n) {
        StringBuilder text = new StringBuilder();
        for (int p = 0; p < n; p++) {
            text.append("prod ").append((char) ('a' + p)).append(":s;");
        }
        return text.toString();
    }

    // "At most 8 SYMBOLS", "a ninth SYMBOL .. (at the LINE's first WORD)"
    private static void eightSymbols(Check c) {
        c.told(symbols(8), 0);
        c.due("eight", c.x.many(0), 8);
        c.due("the last one", c.x.symbol(7, 0), 0);
        c.refused("a ninth", c.x.symbol(8, 0), 4);
        c.grammarFaultAt(6, symbols(8) + "^symbol i;");
        c.grammarFaultAt(6, symbols(8) + "^symbol");
        c.grammarFaultAt(6, symbols(8) + "^symbol a;");
        c.grammarFaultAt(6, symbols(8) + "^symbol !");
        c.grammarFaultAt(6, symbols(8) + "prod p:a;^symbol i;");
        c.told(symbols(8) + "prod p:h;", 1);
        c.due("its LEFT side", c.x.production(0, 0), 7);
    }

    // "12 PRODUCTIONS", "a thirteenth PRODUCTION (at the LINE's first WORD)"
    private static void twelveProductions(Check c) {
        c.told(S + productions(12), 12);
        c.due("twelve", c.x.many(1), 12);
        c.due("the last one", c.x.production(11, 0), 0);
        c.refused("a thirteenth", c.x.production(12, 0), 4);
        c.due("all of s", c.x.symbol(0, 2), 12);
        c.due("no RULES", c.x.many(2), 0);
        c.grammarFaultAt(6, S + productions(12) + "^prod m:s;");
        c.grammarFaultAt(6, S + productions(12) + "^prod");
        c.grammarFaultAt(6, S + productions(12) + "^prod a:t;");
        c.grammarFaultAt(6, S + productions(12) + "rule l 0.b=1;^prod m:s;");
        c.told(S + productions(12) + "rule l 0.b=1;symbol t;", 12);
        c.due("a RULE of the last one", c.x.production(11, 5), 1);
        c.due("the only one", c.x.many(2), 1);
        // Fewer ones later: the RULES of those that went count no more.
        for (int times = 0; times < 3; times++) {
            c.due("one", c.grammar(S + "prod p:s;rule p 0.b=1;"), 1);
            c.due("its RULE", c.x.many(2), 1);
            c.refused("no other", c.x.production(1, 5), 4);
        }
    }

    // "of each SYMBOL 4 ATTRIBUTES in, 4 out", "a fifth in or out .. (at it)"
    private static void fourInFourOut(Check c) {
        String in = "symbol s in a b c d";
        String out = "out e f g h";
        c.told(in + ";", 0);
        c.told("symbol s " + out + ";", 0);
        c.told(in + " " + out + ";", 0);
        c.due("in", c.x.symbol(0, 0), 4);
        c.due("out", c.x.symbol(0, 1), 4);
        c.grammarFaultAt(6, in + " ^e;");
        c.grammarFaultAt(6, in + " ^e " + out + ";");
        c.grammarFaultAt(6, "symbol s " + out + " ^i;");
        c.grammarFaultAt(6, in + " " + out + " ^i;");
        c.grammarFaultAt(2, in + " ^1;");
        // Each SYMBOL has its own.
        c.told(in + " " + out + ";symbol t in a b c d " + out + ";", 0);
        c.grammarFaultAt(6, in + " " + out + ";symbol t in a b c d ^i;");
    }

    // "of a PRODUCTION first its LEFT side, then at most 3 CHILDREN", "a fourth CHILD"
    private static void threeChildren(Check c) {
        String two = "symbol s;symbol t;";
        for (int n = 0; n <= 3; n++) {
            c.told(two + "prod p:s" + " t".repeat(n) + ";", 1);
            c.due("LEFT side", c.x.production(0, 0), 0);
            c.due("CHILDREN", c.x.production(0, 1), n);
            for (int child = 1; child <= 3; child++) {
                if (child <= n) {
                    c.due("a CHILD", c.x.production(0, child + 1), 1);
                } else {
                    c.refused("no such CHILD", c.x.production(0, child + 1), 7);
                }
            }
        }
        c.grammarFaultAt(6, two + "prod p:s t t t ^t;");
        c.grammarFaultAt(6, two + "prod p:s t t t ^s");
        c.grammarFaultAt(2, two + "prod p:s t t t ^in;");
    }

    // "All are numbered from 0 on as they are told (ATTRIBUTES: those in ahead of those out)."
    private static void numbered(Check c) {
        String text = "symbol s in z y x out w v u;symbol r in a b c d out e f g h;symbol q;prod c:r s q s;prod b:s;prod a:q;"
                + "rule c 0.e=1.z;rule c 0.h=3.u;rule c 1.z=0.a;rule c 3.x=0.d;rule b 0.w=0.z;rule b 0.u=0.x;";
        c.told(text, 3);
        int[] sides = {1, 0, 2, 0};
        c.due("LEFT side of c", c.x.production(0, 0), sides[0]);
        for (int child = 1; child < 4; child++) {
            c.due("CHILD of c", c.x.production(0, child + 1), sides[child]);
        }
        c.due("LEFT side of b", c.x.production(1, 0), 0);
        c.due("LEFT side of a", c.x.production(2, 0), 2);
        int[][] pairs = {{0, 4, 8}, {0, 7, 29}, {0, 8, 0}, {0, 26, 3}, {1, 3, 0}, {1, 5, 2}};
        for (int[] pair : pairs) {
            c.due("hangs", c.x.hangs(pair[0], pair[1], pair[2], 0), 1);
            c.due("not the other way", c.x.hangs(pair[0], pair[2], pair[1], 0), 0);
        }
    }

    // "a POSITION (0 the LEFT side, 1 the first CHILD, ..)", "a POSITION that there isn't"
    private static void occs(Check c) {
        String three = "symbol s in a out b;prod p:s s s s;prod q:s;";
        for (int position = 0; position < 4; position++) {
            c.told(three + "rule p 0.b=" + position + ".a+" + position + ".b;", 2);
            c.due("a", c.x.hangs(0, 1, 8 * position, 0), 1);
            c.due("b", c.x.hangs(0, 1, 8 * position + 1, 0), 1);
        }
        c.grammarFaultAt(3, three + "rule p 0.b=^4.a;");
        c.grammarFaultAt(3, three + "rule p 0.b=^9999.a;");
        c.grammarFaultAt(3, three + "rule p ^4.a=1;");
        c.grammarFaultAt(3, three + "rule q ^1.a=1;");
        c.grammarFaultAt(3, three + "rule q 0.b=^1.a;");
        c.grammarFaultAt(3, P + "rule p 0.b=^2.a;");
        // A NUMBER alone is no POSITION.
        c.told(P + "rule p 0.b=9999;", 1);
        // It is, if a point stands behind it.
        c.grammarFaultAt(3, P + "rule p 0.b=^9999 \n .");
    }

    // "A RULE tells an out of POSITION 0 or an in of a CHILD, each once", "5 .. at its NAME"
    private static void whatRulesTell(Check c) {
        String x = "symbol s in a b c d out e f g h;prod p:s s s s;prod q:s;";
        String names = "abcdefgh";
        StringBuilder all = new StringBuilder(x);
        for (int position = 0; position < 4; position++) {
            for (int a = 0; a < 8; a++) {
                String occ = position + "." + names.charAt(a);
                if (position == 0 == a >= 4) {
                    c.told(x + "rule p " + occ + "=1;", 2);
                    c.grammarFaultAt(5, x + "rule p " + occ + "=1;rule p " + occ.replace(".", ".^") + "=1;");
                    all.append("rule p ").append(occ).append("=1;");
                } else {
                    c.grammarFaultAt(5, x + "rule p " + occ.replace(".", ".^") + "=1;");
                }
            }
        }
        c.told(all.toString(), 2);
        c.due("all RULES that there can be", c.x.production(0, 5), 16);
        c.due("none of the other PRODUCTION", c.x.production(1, 5), 0);
        c.due("RULES", c.x.many(2), 16);
        c.told(x + "rule p 0.e=1;rule q 0.e=1;", 2);
        c.due("each PRODUCTION has its own", c.x.many(2), 2);
        c.grammarFaultAt(5, x + "rule p 0.e=1;rule q 0.e=1;rule p 0 . ^e=1;");
        c.grammarFaultAt(5, x + "rule p 0.^a");
    }

    // "24 PARTS that are NUMBERS, num, OCCS .. at most in an E", "a 25th PART .. (at it)"
    private static void twentyFourParts(Check c) {
        for (String part : new String[] {"7", "num", "0.a", "1.b"}) {
            String text = R + part + ("+" + part).repeat(23);
            c.told(text + ";", 1);
            c.grammarFaultAt(6, text + "+^" + part + ";");
            c.grammarFaultAt(6, text + "+(^" + part + ");");
            c.grammarFaultAt(2, text + "+^;");
        }
        String two = "+(1-2)".repeat(11);
        c.told(R + "1+2" + two + ";", 1);
        c.grammarFaultAt(6, R + "1+2" + two + "+^3;");
        String three = "+if(1,num,0.a)".repeat(7);
        c.told(R + "1+2+3" + three + ";", 1);
        c.grammarFaultAt(6, R + "1+2+3" + three + "+if(^1,2,3);");
        c.grammarFaultAt(6, R + "1+2" + three + "+if(1,^2,3);");
        c.grammarFaultAt(6, R + "1" + three + "+if(1,2,^3);");
        // Each E has its own.
        String full = "1" + "+1".repeat(23) + ";";
        c.told(R + full + "rule p 1.a=" + full, 1);
    }

    // "6 brackets within one another, at most in an E", "a 7th bracket (at it)"
    private static void sixBrackets(Check c) {
        c.told(R + "((((((1))))));", 1);
        c.grammarFaultAt(6, R + "((((((^(1)))))));");
        c.grammarFaultAt(6, R + "((((((^(");
        c.told(R + "if(if(if(if(if(if(1,1,1),1,1),1,1),1,1),1,1),1,1);", 1);
        c.grammarFaultAt(6, R + "if(if(if(if(if(if(if^(1,1,1),1,1),1,1),1,1),1,1),1,1),1,1);");
        c.told(R + "(if(1,(if(1,2,(if(3,4,5)))),6));", 1);
        c.grammarFaultAt(6, R + "(if(1,(if(1,2,(if(^(3),4,5)))),6));");
        c.grammarFaultAt(6, R + "(if(1,(if(1,2,(if(3,^(4),5)))),6));");
        c.grammarFaultAt(6, R + "(if(1,(if(1,2,(if(3,4,^(5))))),6));");
        // Those that stand side by side are not within one another.
        c.told(R + "(1)+(2)+(3)+(4)+(5)+(6)+(7)+((((((8))))))+((((((9))))));", 1);
        c.told(R + "((((((1)+(2))+(3))+(4))+(5))+(6));", 1);
        c.grammarFaultAt(2, R + "((((((^))))));");
    }

    // ---- faults

    // "FAULTS, the first along the text": of two the one ahead is told, whatever its kind.
    private static void firstAlong(Check c) {
        String[] faults = {"symbol ^!;", "symbol ^1;", "prod p:^z;", "symbol ^s;", "rule o 0.^a=1;", "symbol u in a b c d ^e;"};
        for (int first = 0; first < faults.length; first++) {
            for (String second : faults) {
                c.grammarFaultAt(first + 1, S + "prod o:s;" + faults[first] + second.replace("^", ""));
            }
        }
        // A LINE that is whole ahead of one that is not.
        c.grammarFaultAt(6, symbols(8) + "prod p:a;^symbol i;!");
        c.grammarFaultAt(2, "symbol s;^in !");
    }

    // "(Of one TOKEN the least kind.)"
    private static void leastKind(Check c) {
        String full = R + "1" + "+1".repeat(23);
        // No TOKEN, where nothing else could stand either.
        c.grammarFaultAt(1, symbols(8) + "^symbolsss i;");
        c.grammarFaultAt(1, full + "+^!;");
        c.grammarFaultAt(1, "symbol s in a b c d ^abcdefghi;");
        c.grammarFaultAt(1, "symbol s;prod p:s s s s ^abcdefghi;");
        c.grammarFaultAt(1, P + "rule p ^12345.b=1;");
        // 2 ahead of 6
        c.grammarFaultAt(2, full + "+^);");
        // 3 ahead of 6
        c.grammarFaultAt(3, "symbol s;prod p:s s s s ^t;");
        c.grammarFaultAt(3, full + "+^2.a;");
        // 4 ahead of 6
        c.grammarFaultAt(4, "symbol s in a b c d ^a;");
        c.grammarFaultAt(4, "symbol s in a out b c d e ^a;");
        c.grammarFaultAt(4, "symbol s out a b c d ^d;");
        // 3 ahead of 5
        c.grammarFaultAt(3, P + "rule p ^7.a=1;");
        // A NAME told already of a PRODUCTION, though there are twelve: the LINE's first WORD is ahead.
        c.grammarFaultAt(6, S + productions(12) + "^prod a:s;");
        // The 25th PART's first TOKEN is ahead of its NAME.
        c.grammarFaultAt(6, full + "+^0.z;");
        c.grammarFaultAt(6, full + "+^0.;");
    }
}
