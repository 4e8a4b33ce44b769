/** Terms II: the bounds of both languages, and of LAWS. */
final class LanguageEdges extends Edges {
    private LanguageEdges() {
    }

    static void run() {
        tapeLength();
        tokens();
        otherBytes();
        clauses();
        tests();
        sums();
        partNumbers();
        fiftyParts();
        eightBrackets();
        faults();
        readAnew();
        limits();
        divisions();
        whatCanMatter();
        lawNumbers();
        lawClauses();
        lawWords();
        wordsOfCells();
        persons();
        holding();
        going();
        burning();
        shunningAndBarring();
    }

    /** How SPARK 0 burns by the SUM; 3 stands for BROKEN (and above 2, below -2 do not tell apart). */
    private static void sumIs(int want, String sum) {
        again();
        sparks(12);
        rule("burns 3;burns " + sum);
        due(want, "of", 0, 4);
    }

    /** Whether the TEST is so (1), is not (0), is BROKEN (2). */
    private static void testIs(int want, String test) {
        again();
        sparks(12);
        rule("goes 2;goes 0 if not(" + test + ");goes 1 if " + test);
        due(want, "of", 0, 3);
    }

    private static void tapeLength() {
        edge("II: 10, 14", "TEXTS are on a TAPE of at most 400 bytes.");
        for (int i = 1; i <= 20; i++) {
            due(20 * i, "feed", 0x20202020, 0x20202020, 0x20202020, 0x20202020, 0x20202020);
        }
        idle(NONE, "feed", 0x20202020, 0x20202020, 0x20202020, 0x20202020, 0x20202020);
        refusedText(-6, 400, NONE, "law");
        law(0, "bars" + repeated(" ", "", 396));
        law(1, repeated(" ", "", 396) + "bars");
        orders(1, repeated(" ", "", 396) + "pass");
        noLaw(399, repeated(" ", "", 395) + "bars~");
    }

    private static void tokens() {
        edge("II: 14, 15", "TOKENS: longest rows of letters a .. z, of digits, single other bytes, "
                + "any blanks (32) between.");
        // rows end where letters and digits, and other bytes, meet
        law(0, "goes1if[x]=1;burns2if(y>1)and not(kind=0);bars");
        orders(2, "pass times2if minute<9");
        law(1, "   goes   1   if   x   =   1   ;   bars   ");
        noLaw(0, "goesx");
        noLaw(0, "barsif x=1");
        noLaw(0, "barsa");
        noLaw(0, "barsz");
        noLaw(0, "abars");
        noLaw(0, "zbars");
        noLaw(0, "goe s 1");
        noLaw(5, "goes xy");
        noLaw(7, "goes 1 2");
        noLaw(5, "goes 1002");
        noLaw(6, "goes 1x");
        noLaw(6, "goes x1");
        noLaw(11, "bars if x == 1");
        noLaw(0, "z");
        noLaw(0, "a");
        noLaw(5, "bars z");
        noLaw(0, "0");
        noLaw(0, "9");
    }

    private static void otherBytes() {
        edge("II: 14, 15", "single other bytes, any blanks (32) between");
        // just beside the letters, the digits, the blank; the ends of a byte
        for (char other : new char[] {'`', '{', ':', '!', 'A', 'Z', 31, 33, 0, 9, 10, 127, 128, 160, 255}) {
            again();
            noLaw(4, "bars" + other);
            noLaw(4, "bars" + other + ";bars");
            noLaw(4, "goes" + other + "1");
            noOrders(5, "pass " + other);
        }
    }

    private static void clauses() {
        edge("II: 14, 15", "Of both languages: CLAUSE {\";\" CLAUSE}, 12 at most (FAULT at the 13th's first TOKEN).");
        law(0, "bars");
        law(1, repeated("bars", ";", 12));
        noLaw(60, repeated("bars", ";", 13));
        noLaw(60, repeated("bars", ";", 12) + ";");
        noLaw(62, repeated("bars", ";", 12) + ";  ~bars");
        noLaw(60, repeated("bars", ";", 12) + ";shuns no");
        noLaw(0, ";");
        noLaw(5, "bars;");
        noLaw(5, "bars;;bars");
        noLaw(5, "bars bars");
        orders(12, repeated("pass", ";", 12));
        noOrders(60, repeated("pass", ";", 13));
        noOrders(60, repeated("pass", ";", 12) + ";");
        noOrders(0, ";pass");
        noOrders(5, "pass;");
        // all twelve are asked: the last one holds
        again();
        sparks(12);
        rule(repeated("goes 1", ";", 11) + ";goes 3");
        due(3, "of", 0, 3);
    }

    private static void tests() {
        edge("II: 14", "TEST: BOTH {\"or\" BOTH}. BOTH: PLAIN {\"and\" PLAIN}. "
                + "PLAIN: \"not\" PLAIN | \"(\" TEST \")\" | SUM (\"<\" | \">\" | \"=\") SUM.");
        testIs(0, "2<2");
        testIs(1, "1<2");
        testIs(0, "2>2");
        testIs(1, "3>2");
        testIs(1, "2=2");
        testIs(0, "2=3");
        testIs(1, "1=1 or 1=1 and 1=2");
        testIs(0, "(1=1 or 1=1) and 1=2");
        testIs(1, "1=2 and 1=2 or 1=1");
        testIs(0, "not 1=1 or 1=2");
        testIs(0, "not 1=2 and 1=2");
        testIs(1, "not(1=2 and 1=2)");
        testIs(1, "not not 1=1");
        testIs(0, "not not not 1=1");
        testIs(1, "((1=1))");
        again();
        noLaw(7, "bars if");
        noLaw(9, "bars if ()");
        noLaw(9, "bars if x");
        noLaw(10, "bars if x and x=1");
        noLaw(10, "bars if x<");
        noLaw(11, "bars if not");
        noLaw(14, "bars if 1=1 or");
        noLaw(15, "bars if 1=1 and");
        noLaw(11, "bars if 1=1=1");
        noLaw(12, "bars if 1=1 not 1=1");
        noLaw(10, "bars if 1=(1)");
    }

    private static void sums() {
        edge("II: 14", "SUM: TERM {(\"+\" | \"-\") TERM}. TERM: PART {(\"*\" | \"/\" | \"%\") PART}.");
        sumIs(2, "2");
        sumIs(1, "9-5-3");
        sumIs(-1, "1-4+2");
        sumIs(1, "7-2*3");
        sumIs(2, "[7-5]*1");
        sumIs(2, "16/4/2");
        sumIs(1, "8/4*2%3");
        sumIs(-2, "0-14%4");
        again();
        noLaw(6, "burns +1");
        noLaw(6, "burns -1");
        noLaw(8, "burns 1+");
        noLaw(8, "burns 1++1");
        noLaw(8, "burns 1*-1");
        noLaw(8, "burns 1/");
        noLaw(8, "burns 1%");
    }

    private static void partNumbers() {
        edge("II: 14", "PART: NUMBER (to 1,000) | \"[\" SUM \"]\" | a word, as told.");
        sumIs(1, "1000-999");
        sumIs(0, "0");
        sumIs(1, "0001000/1000");
        sumIs(1, repeated("0", "", 370) + "1");
        sumIs(2, "[2]");
        sumIs(2, "x");
        again();
        noLaw(6, "burns 1001");
        noLaw(6, "burns 01001");
        noLaw(6, "burns 10000");
        noLaw(6, "burns 4294967297");
        noLaw(6, "burns 99999999999999999999");
        noLaw(6, "burns " + repeated("9", "", 394));
        noLaw(8, "burns 1+1001");
        noLaw(7, "burns []");
        noLaw(6, "burns ]");
        noLaw(6, "burns word");
        noLaw(6, "burns if 1=1");
        noOrders(4, "wet 1001");
        stops(0, "wet 1000");
    }

    private static void fiftyParts() {
        edge("II: 14, 15", "50 PARTS that are NUMBERS and words (FAULT at the 51st)");
        law(0, "burns " + repeated("1", "+", 50));
        noLaw(6 + 100, "burns " + repeated("1", "+", 51));
        law(1, "burns " + repeated("x", "+", 50));
        noLaw(6 + 100, "burns " + repeated("x", "+", 51));
        // brackets are no such PARTS
        law(2, "burns " + repeated("[x]", "+", 50));
        noLaw(6 + 4 * 50 + 1, "burns " + repeated("[x]", "+", 51));
        // of the whole TEXT, over its CLAUSES, their SUMS and TESTS
        law(3, repeated("burns 1 if x=1", ";", 12) + "+" + repeated("1", "+", 14));
        noLaw(15 * 11 + 14 + 2 * 14 + 1, repeated("burns 1 if x=1", ";", 12) + "+" + repeated("1", "+", 15));
        noLaw(6 + 100, "burns " + repeated("1", "+", 50) + "+no");
        noLaw(6 + 100, "burns " + repeated("1", "+", 50) + "+1001");
        noLaw(6 + 100, "burns " + repeated("1", "+", 50) + "+");
        stops(0, "wet " + repeated("1", "+", 50));
        noOrders(4 + 100, "wet " + repeated("1", "+", 51));
        noOrders(4 + 100, "wet " + repeated("1", "+", 50) + "+heat 9");
        noOrders(10 + 98, "pass if 1=" + repeated("1", "+", 50));
        orders(0, "pass if 1=" + repeated("1", "+", 49));
        // what they are worth
        again();
        sparks(12);
        rule("burns " + repeated("1", "+", 49) + "-50");
        due(-1, "of", 0, 4);
    }

    private static void eightBrackets() {
        edge("II: 14, 15", "8 brackets of both kinds within one another (FAULT at the 9th) at most.");
        sumIs(2, repeated("[", "", 8) + "2" + repeated("]", "", 8));
        sumIs(2, repeated("[", "", 8) + "1" + repeated("]", "", 8) + "+" + repeated("[", "", 8) + "1"
                + repeated("]", "", 8));
        again();
        noLaw(6 + 8, "burns " + repeated("[", "", 9) + "2" + repeated("]", "", 9));
        noLaw(6 + 8, "burns " + repeated("[", "", 9));
        law(0, "bars if " + repeated("(", "", 8) + "1=1" + repeated(")", "", 8));
        noLaw(8 + 8, "bars if " + repeated("(", "", 9) + "1=1" + repeated(")", "", 9));
        law(1, "bars if " + repeated("(", "", 5) + "[[[1]]]=1" + repeated(")", "", 5));
        noLaw(8 + 8, "bars if " + repeated("(", "", 5) + "[[[[1]]]]=1" + repeated(")", "", 5));
        law(2, "bars if " + repeated("(", "", 7) + "[1]=[1]" + repeated(")", "", 7));
        noLaw(8 + 12, "bars if " + repeated("(", "", 7) + "[1]=[[1]]" + repeated(")", "", 7));
        law(3, "bars if " + repeated("(not ", "", 8) + "1=1" + repeated(")", "", 8));
        orders(1, "wet " + repeated("[", "", 8) + "2" + repeated("]", "", 8));
        noOrders(4 + 8, "wet " + repeated("[", "", 9) + "2" + repeated("]", "", 9));
    }

    private static void faults() {
        edge("II: 16", "FAULT: the first TOKEN that can't go on there (the end's: the TEXT's length).");
        noLaw(0, "");
        noLaw(1, " ");
        noLaw(400, repeated(" ", "", 400));
        noLaw(4, "goes");
        noLaw(6, "goes  ");
        noLaw(7, "goes [1");
        noLaw(9, "goes [1  ");
        noLaw(7, "goes 1 no");
        noLaw(2, "  no");
        noLaw(399, repeated(" ", "", 399) + "~");
        noLaw(5, "goes ~ ~");
        noLaw(7, "goes 1 ]");
        noLaw(11, "bars if x  ;bars");
        noLaw(12, "bars if (x=1");
        noLaw(12, "bars if (x=1]");
        noLaw(10, "bars if [x=1]");
        noOrders(0, "");
        noOrders(6, "call 1");
        noOrders(8, "call 1  ");
        noOrders(7, "call 1 ~");
    }

    private static void readAnew() {
        edge("II: 14, 15, 16", "FAULT: the first TOKEN that can't go on there");
        // what a TEXT left open, and how long it was, has no part in the next
        sparks(12);
        for (int i = 0; i < 20; i++) {
            tape("goes 1+1*" + repeated("[", "", 8));
            due(-6, "law");
            due(17, "fault");
        }
        for (int i = 0; i < 12; i++) {
            tape("pass if " + repeated("1", "+", 40) + "=1 or (");
            due(-6, "orders");
            due(8 + 79 + 7, "fault");
        }
        rule("goes 0;goes 1 if (1=1);goes 2 if (2=[2])");
        due(2, "of", 0, 3);
        orders(2, "pass times 2 if (1=1)");
    }

    private static void limits() {
        edge("II: 3", "Beyond 1,000,000,000 either way");
        // 3 is told, if it is BROKEN; the SUMS themselves are 1, -1
        sumIs(1, "1000*1000*1000/1000/1000/1000");
        sumIs(-1, "[0-1000*1000*1000]/1000/1000/1000");
        sumIs(3, "[1000*1000*1000+1]/1000/1000/1000");
        sumIs(3, "[0-1000*1000*1000-1]/1000/1000/1000");
        sumIs(1, "[1000*1000*1000-1]/1000/1000/999");
        sumIs(3, "[1000*1000*1000*1000]%2");
        sumIs(3, "[0-1000*1000*1000*1000]%2");
        // what would go round in 32 and 64 bits
        sumIs(3, "1000*1000*1000*2+1000*1000*1000*2");
        sumIs(3, "[1000*1000*1000]*[1000*1000*1000]*1000*1000%2");
        sumIs(3, "1000*1000*1000+1-1000*1000*1000");
        sumIs(2, "1000*1000*1000-1000*1000*1000+2");
        testIs(2, "1000*1000*1000+1>0");
        testIs(2, "0-1000*1000*1000-1<0");
        testIs(1, "1000*1000*1000>0");
        testIs(0, "1000*1000*1000<0");
    }

    private static void divisions() {
        edge("II: 3", "or divided by 0 (/ cut towards 0, % what is left then), a SUM, a TEST is BROKEN");
        sumIs(3, "1/0");
        sumIs(3, "1%0");
        sumIs(3, "0/0");
        sumIs(3, "0%0");
        sumIs(3, "0*[1/0]");
        sumIs(3, "1/[x-2]");
        sumIs(0, "0/1");
        sumIs(2, "7/3");
        sumIs(-2, "[0-7]/3");
        sumIs(-2, "7/[0-3]");
        sumIs(2, "[0-7]/[0-3]");
        sumIs(1, "7%3");
        sumIs(-1, "[0-7]%3");
        sumIs(1, "7%[0-3]");
        sumIs(-1, "[0-7]%[0-3]");
        testIs(2, "1/0=1");
        testIs(2, "1=1%0");
        testIs(2, "not 1/0=1");
        testIs(2, "(1/0=1)");
    }

    private static void whatCanMatter() {
        edge("II: 3", "(\"or\", \"and\" ask what stands behind only if it can still matter)");
        testIs(1, "1=1 or 1/0=1");
        testIs(2, "1=2 or 1/0=1");
        testIs(0, "1=2 and 1/0=1");
        testIs(2, "1=1 and 1/0=1");
        testIs(2, "1/0=1 or 1=1");
        testIs(2, "1/0=1 and 1=2");
        testIs(1, "1=2 and 1/0=1 or 1=1");
        testIs(1, "1=1 or 1/0=1 and 1/0=1 or 1/0=1");
        testIs(0, "1=2 and 1/0=1 and 1/0=1");
        testIs(1, "1=1 or 1/0=1 or 1/0=1");
        testIs(0, "(1=2 or 1=3) and 1/0=1");
        testIs(2, "1=1 and 1/0=1 or 1=1");
        testIs(2, "1=2 or 1=1 and 1/0=1 or 1=1");
        testIs(0, "not (1=1 or 1/0=1)");
        testIs(1, "1=2 and (1=1 or 1/0=1) or 1=1");
        testIs(1, "1=2 or (1=2 and 1/0=1 or 1=1)");
    }

    private static void lawNumbers() {
        edge("II: 14, 18", "LAWS, 6 at most; one is in FORCE (NONE at first: no CLAUSE)");
        sparks(12);
        row(1, 0, 12, 2);
        due(NONE, "count", 12);
        due(0, "of", 0, 3);
        due(1, "of", 0, 4);
        for (int i = 0; i < 6; i++) {
            refused(-2, "force", i);
            due(i, "count", 4);
            law(i, "goes " + i % 5 + ";burns 0-" + i % 4);
        }
        tape("bars");
        refusedText(-5, NONE, NONE, "law");
        due(6, "count", 4);
        for (int i = 0; i < 6; i++) {
            due(i - 1, "force", i);
            due(i, "count", 12);
            due(i % 5, "of", 0, 3);
            due(-(i % 4), "of", 0, 4);
        }
        refused(-2, "force", 6);
        refused(-2, "force", -2);
        due(5, "force", NONE);
        due(0, "of", 0, 3);
        due(1, "of", 0, 4);
    }

    private static void lawClauses() {
        edge("II: 14", "CLAUSE: ((\"goes\" | \"burns\") SUM | \"shuns\" | \"bars\") [\"if\" TEST].");
        law(0, "goes 1;burns 1;shuns;bars");
        law(1, "goes 1 if 1=1;burns 1 if 1=1;shuns if 1=1;bars if 1=1");
        noLaw(4, "goes");
        noLaw(5, "burns");
        noLaw(5, "goes if 1=1");
        noLaw(6, "shuns 1");
        noLaw(5, "bars 1");
        noLaw(7, "bars if");
        noLaw(9, "goes 1 if");
        noLaw(14, "goes 1 if 1=1 if 1=1");
        noLaw(0, "wet 1");
        noLaw(0, "if 1=1");
    }

    private static void lawWords() {
        edge("II: 14", "Words: \"spark\" | \"heat\" | \"name\" | \"x\" | \"y\" | \"kind\" | \"far\" | \"person\" | "
                + "\"minute\" | \"mood\".");
        String[] words = {"spark", "heat", "name", "x", "y", "kind", "far", "person", "minute", "mood"};
        int[] lowest = {0, 1, 0, 0, 0, 0, 0, 0, 0, 0};
        int[] highest = {5, 9, 99, 4, 4, 3, 8, 4, 999, 9};
        for (int i = 0; i < words.length; i++) {
            again();
            for (int k = 0; k < 5; k++) {
                go("spark", 0, 1, 0);
                go("person", 24, 8);
            }
            go("spark", 24, 9, 99);
            row(1, 0, 24, 3);
            rule("goes 0;goes 1 if " + words[i] + "=" + lowest[i] + ";goes 2 if " + words[i] + "=" + highest[i]
                    + ";shuns if " + words[i] + "=" + highest[i]);
            boolean person = words[i].equals("person");
            due(person ? 0 : 1, "of", 0, 3);
            go("terms", 0, 999);
            go("terms", 2, 9);
            due(person ? 0 : 2, "of", 5, 3);
            due(1, "asks", 5, 4, 1);
        }
        again();
        noLaw(5, "goes sparks");
        noLaw(5, "goes spar");
        noLaw(5, "goes xx");
        noLaw(5, "goes z");
        noLaw(5, "goes done");
        noLaw(5, "goes latest");
        noLaw(5, "goes loose");
        noLaw(5, "goes cell");
        noLaw(5, "goes cell 1");
        noLaw(10, "goes heat 1");
    }

    private static void wordsOfCells() {
        edge("II: 22", "x, y, kind: of the SPARK's CELL, far: how FAR that is from HOME "
                + "(\"bars\": all four of the CELL to which it would go).");
        sparks(12);
        row(2, 0, 12, 2, 13, 1);
        go("terms", 3, 15);
        // CELL 12: x 2, y 2, paper, 3 FAR from CELL 15; CELL 13: x 3, y 2, wet, 4 FAR
        rule("goes x*2 if x=2 and y=2 and kind=2 and far=3;burns 0-far if y=2");
        due(4, "of", 0, 3);
        due(-3, "of", 0, 4);
        String[] there = {"x=3", "y=2", "kind=1", "far=4"};
        String[] here = {"x=2", "y=3", "kind=2", "far=3"};
        for (int i = 0; i < 4; i++) {
            again();
            sparks(12);
            row(2, 0, 12, 2, 13, 1);
            go("terms", 3, 15);
            rule("goes 2;burns 0;bars if " + here[i]);
            due(13, "where", 0, 1);
            rule("goes 2;burns 0;bars if " + there[i]);
            due(12, "where", 0, 1);
        }
        again();
        sparks(12);
        rule("goes 1;bars if y=2");
        due(17, "where", 0, 1);
        rule("goes 1;bars if y=3");
        due(12, "where", 0, 1);
        // as FAR as can be
        again();
        sparks(24);
        rule("goes far-4");
        due(4, "of", 0, 3);
        go("terms", 3, 24);
        due(0, "of", 0, 3);
        rule("goes 1 if far=0");
        due(1, "of", 0, 3);
    }

    private static void persons() {
        edge("II: 3, 7, 22", "\"goes\", \"burns\", \"bars\" are asked of a SPARK (person -1), "
                + "\"shuns\" of a SPARK and a PERSON.");
        sparks(12);
        people(12, 12, 12, 12, 12);
        rule("goes 3;goes 2 if person=0-1;burns 0;burns 1 if person=0-1");
        due(2, "of", 0, 3);
        due(1, "of", 0, 4);
        due(13, "where", 0, 1);
        rule("goes 2;bars if person>0-1");
        due(13, "where", 0, 1);
        rule("goes 2;bars if person=0-1");
        due(12, "where", 0, 1);
        for (int p = 0; p < 5; p++) {
            again();
            sparks(12);
            people(12, 12, 12, 12, 12);
            rule("shuns if person=" + p);
            for (int other = 0; other < 5; other++) {
                due(other == p ? 1 : 0, "asks", 0, other, 1);
                due(other == p ? -3 : 0, "call", 0, other);
            }
        }
    }

    private static void holding() {
        edge("II: 3", "A CLAUSE HOLDS, if its \"if\" (if it has one) is so, and neither that nor its SUM is BROKEN.");
        String[] texts = {"goes 1", "goes 1 if 1=1", "goes 1 if 1=2", "goes 1 if 1/0=1", "goes 1/0", "goes 1/0 if 1=1",
            "goes 1/0 if 1=2"};
        int[] ways = {1, 1, 3, 3, 3, 3, 3};
        for (int i = 0; i < texts.length; i++) {
            again();
            sparks(12);
            rule("goes 3;" + texts[i]);
            due(ways[i], "of", 0, 3);
        }
        again();
        sparks(12);
        people(12);
        rule("shuns if 1/0=1;bars if 1/0=1;goes 2");
        due(0, "asks", 0, 0, 1);
        due(13, "where", 0, 1);
    }

    private static void going() {
        edge("II: 3", "A SPARK GOES the WAY 0 .. 4 that the last \"goes\" that HOLDS tells (else the nearest), "
                + "without its number and MINUTE modulo 5;");
        String[] sums = {"0", "4", "5", "1000", "0-1", "0-1000", "1000*1000*1000", "0-1000*1000*1000"};
        int[] ways = {0, 4, 4, 4, 0, 0, 4, 0};
        for (int i = 0; i < sums.length; i++) {
            again();
            sparks(12);
            rule("goes 2;goes " + sums[i] + ";goes 1 if 1=2");
            due(ways[i], "of", 0, 3);
        }
        again();
        sparks(12, 12, 12, 12, 12, 12);
        for (int minute : new int[] {0, 1, 4, 5, 998, 999}) {
            go("terms", 0, minute);
            for (int k = 0; k < 6; k++) {
                due((k + minute) % 5, "of", k, 3);
            }
        }
    }

    private static void burning() {
        edge("II: 3", "it BURNS by -3 .. 3, without 1 on paper, -3 on a wet CELL, else 0;");
        String[] sums = {"3", "4", "1000", "0-3", "0-4", "0-1000", "0", "1", "1000*1000*1000", "0-1000*1000*1000"};
        int[] burns = {3, 3, 3, -3, -3, -3, 0, 1, 3, -3};
        for (int i = 0; i < sums.length; i++) {
            again();
            sparks(12);
            row(1, 0, 12, 1);
            rule("burns 2;burns " + sums[i] + ";burns 1 if 1=2");
            due(burns[i], "of", 0, 4);
        }
        again();
        sparks(5, 6, 7, 8);
        row(4, 0, 5, 0, 6, 1, 7, 2, 8, 3);
        rule("goes 1;burns 2 if 1=2");
        int[] without = {0, -3, 1, 0};
        for (int k = 0; k < 4; k++) {
            due(without[k], "of", k, 4);
        }
    }

    private static void shunningAndBarring() {
        edge("II: 7, 22", "it SHUNS a PERSON, if \"shuns\" HOLDS; "
                + "it is BARRED from a CELL, if that is a wall or \"bars\" HOLDS.");
        sparks(12);
        people(12);
        rule("goes 2");
        due(0, "asks", 0, 0, 1);
        due(13, "where", 0, 1);
        rule("goes 2;shuns;bars");
        due(1, "asks", 0, 0, 1);
        due(12, "where", 0, 1);
        // any of them will do, not the last alone
        rule("goes 2;shuns;shuns if 1=2;bars;bars if 1=2");
        due(1, "asks", 0, 0, 1);
        due(12, "where", 0, 1);
        rule("goes 2;shuns if 1=2;bars if 1=2");
        due(0, "asks", 0, 0, 1);
        due(13, "where", 0, 1);
        row(1, 0, 13, 3);
        due(12, "where", 0, 1);
        go("force", NONE);
        go("terms", 0, 2);
        due(12, "where", 0, 1);
        row(1, 0, 13, 2);
        due(13, "where", 0, 1);
    }
}
