import java.nio.charset.StandardCharsets;

/** Each promise of the document by ordinary inputs, the edges that it names, and wrong inputs. */
public final class PromisesTest {
    private static final int NONE = -1;
    private static final int NOTHING = -100;
    private static final int LOW = Integer.MIN_VALUE;
    private static final int HIGH = Integer.MAX_VALUE;

    private static int wrong = 0;
    private static int asked = 0;
    private static String about = "";
    private static NamedSparks x = new NamedSparks();

    private PromisesTest() {
    }

    public static void main(String[] args) {
        newObject();
        sparks();
        people();
        floorsAndTerms();
        tapes();
        rows();
        laws();
        lawWords();
        lawEffects();
        sumsAndTests();
        limitsOfTexts();
        faults();
        orders();
        orderWords();
        ordersUndone();
        forces();
        calls();
        wets();
        walks();
        passes();
        undos();
        wheres();
        firsts();
        chains();
        answers();
        alikes();
        guards();
        lessons();
        drifts();
        hots();
        nights();
        images();
        counts();
        statuses();
        if (wrong == 0) {
            System.out.println(asked + " answers are as due");
        } else {
            System.out.println(wrong + " answers are not as due");
            System.exit(1);
        }
    }

    // ---- helpers ----

    private static void begin(String what) {
        about = what;
        x = new NamedSparks();
    }

    private static void due(long want, String name, int... a) {
        asked++;
        long got = Face.ask(x, name, a);
        if (got != want) {
            wrong++;
            System.out.println(about + ": " + Face.shown(name, a) + " answered " + got + ", due is " + want);
        }
    }

    /** Some calls whose answers are not looked at here. */
    private static void go(String name, int... a) {
        Face.ask(x, name, a);
    }

    /** Puts a TEXT on the TAPE, which must be empty. */
    private static void tape(String text) {
        tape(text.getBytes(StandardCharsets.ISO_8859_1));
    }

    private static void tape(byte... bytes) {
        for (int i = 0; i < bytes.length; i += 20) {
            int[] five = new int[5];
            for (int j = 0; j < 20; j++) {
                int b = i + j < bytes.length ? bytes[i + j] & 255 : 32;
                five[j / 4] = five[j / 4] << 8 | b;
            }
            go("feed", five);
        }
        due(bytes.length, "end", bytes.length);
    }

    private static void law(int want, String text) {
        tape(text);
        due(want, "law");
    }

    private static void orders(int want, String text) {
        tape(text);
        due(want, "orders");
    }

    private static void lawFault(int place, String text) {
        law(-6, text);
        due(place, "fault");
        due(0, "count", 6);
    }

    private static void orderFault(int place, String text) {
        orders(-6, text);
        due(place, "fault");
        due(NONE, "stopped");
    }

    /** Sets KINDS: by twos a CELL, a KIND. */
    private static void kinds(int... twos) {
        byte[] bytes = new byte[twos.length];
        for (int i = 0; i < twos.length; i++) {
            bytes[i] = (byte) twos[i];
        }
        tape(bytes);
        due(twos.length / 2, "row");
    }

    /** What a SUM of a LAW is, by how SPARK 0 burns: -3 .. 3; 0 too, if it is BROKEN (it is on a floor). */
    private static void sumIs(int want, String sum) {
        law((int) Face.ask(x, "count", 4), "burns " + sum);
        go("force", (int) Face.ask(x, "count", 4) - 1);
        due(want, "of", 0, 4);
    }

    /** Whether a TEST of a LAW holds: 1, 0 (BROKEN, too). */
    private static void testIs(int want, String test) {
        begin("the TEST " + test);
        go("spark", 12, 5, 34);
        law(0, "burns 1 if " + test);
        go("force", 0);
        due(want, "of", 0, 4);
    }

    // ---- promises ----

    private static void newObject() {
        begin("1");
        for (int what = 0; what <= 11; what++) {
            due(0, "count", what);
        }
        due(NONE, "count", 12);
        due(0, "count", 13);
        due(1, "count", 14);
        due(0, "count", 15);
        due(0, "count", 16);
        for (int cell = 0; cell < 25; cell++) {
            due(0, "floor", cell);
        }
        due(NONE, "fault");
        due(NONE, "stopped");
        due(0, "ash");
        due(0, "status");
        due(NOTHING, "drawn", 0, 0);
        due(NOTHING, "of", 0, 0);
        due(NONE, "at", 0, 0);
        due(0, "which");
        NamedSparks other = new NamedSparks();
        other.spark(3, 3, 3);
        due(0, "count", 0);
    }

    private static void sparks() {
        begin("2");
        kinds(3, 3);
        due(-1, "spark", -1, 5, 5);
        due(-1, "spark", 25, 5, 5);
        due(-1, "spark", 5, 0, 5);
        due(-1, "spark", 5, 10, 5);
        due(-1, "spark", 5, 5, -1);
        due(-1, "spark", 5, 5, 100);
        due(-1, "spark", LOW, HIGH, 5);
        due(-1, "spark", 3, 0, 0);
        due(-3, "spark", 3, 1, 0);
        due(0, "count", 0);
        due(0, "spark", 0, 1, 0);
        due(1, "spark", 24, 9, 99);
        due(2, "spark", 24, 9, 99);
        due(3, "spark", 4, 2, 7);
        due(4, "spark", 5, 2, 70);
        due(5, "spark", 6, 2, 71);
        due(-5, "spark", 6, 2, 71);
        due(-3, "spark", 3, 2, 71);
        due(-1, "spark", 3, 2, 171);
        due(6, "count", 0);

        begin("3");
        go("spark", 6, 4, 56);
        go("spark", 12, 5, 7);
        go("person", 0, 8);
        go("person", 1, 8);
        go("person", 2, 8);
        go("knows", 0, 2);
        go("knows", 2, 3);
        due(6, "of", 0, 0);
        due(4, "of", 0, 1);
        due(56, "of", 0, 2);
        due(7, "of", 1, 2);
        due(0, "of", 0, 3);
        due(1, "of", 1, 3);
        due(0, "of", 0, 4);
        due(4, "of", 0, 5);
        due(5, "of", 1, 5);
        due(NOTHING, "of", 2, 0);
        due(NOTHING, "of", -1, 0);
        due(NOTHING, "of", 0, 6);
        due(NOTHING, "of", 0, -1);
        due(NOTHING, "of", HIGH, LOW);
        go("terms", 0, 3);
        due(3, "of", 0, 3);
        due(4, "of", 1, 3);
        go("terms", 0, 4);
        due(0, "of", 1, 3);
        kinds(6, 1, 12, 2);
        due(-3, "of", 0, 4);
        due(1, "of", 1, 4);
        kinds(6, 3);
        due(0, "of", 0, 4);
        due(4, "call", 1, 0);
        due(NONE, "of", 1, 0);
        due(0, "of", 1, 1);
        due(7, "of", 1, 2);
        due(NOTHING, "of", 1, 3);
        due(NOTHING, "of", 1, 4);
        due(5, "of", 1, 5);
    }

    private static void people() {
        begin("4");
        kinds(9, 3);
        due(-1, "person", -1, 5);
        due(-1, "person", 25, 5);
        due(-1, "person", 5, -1);
        due(-1, "person", 5, 9);
        due(-1, "person", 9, 9);
        due(-3, "person", 9, 8);
        due(0, "person", 0, 0);
        due(1, "person", 24, 8);
        due(2, "person", 24, 8);
        due(3, "person", 1, 1);
        due(4, "person", 2, 2);
        due(-5, "person", 2, 2);
        due(-3, "person", 9, 2);
        due(-1, "person", 2, 9);
        due(5, "count", 2);

        begin("5");
        go("person", 17, 6);
        go("knows", 0, 33);
        due(17, "at", 0, 0);
        due(6, "at", 0, 1);
        due(33, "at", 0, 2);
        due(NONE, "at", 0, 3);
        due(NONE, "at", 0, -1);
        due(NONE, "at", 1, 0);
        due(NONE, "at", -1, 0);
        due(NONE, "at", HIGH, 0);

        begin("6");
        due(-2, "knows", 0, 1);
        due(-1, "knows", 0, 64);
        go("person", 0, 8);
        due(0, "knows", 0, 63);
        due(63, "knows", 0, 0);
        due(0, "knows", 0, 5);
        due(-1, "knows", 0, -1);
        due(-1, "knows", 0, 64);
        due(-1, "knows", 7, 64);
        due(-2, "knows", 1, 5);
        due(-2, "knows", -1, 5);
        due(5, "at", 0, 2);

        begin("7");
        go("person", 0, 3);
        go("knows", 0, 1);
        go("person", 24, 8);
        go("knows", 1, 2);
        go("spark", 7, 5, 0);
        go("spark", 13, 5, 0);
        due(3, "asks", 0, 0, 0);
        due(5, "asks", 1, 0, 0);
        due(5, "asks", 0, 1, 0);
        due(1, "asks", 0, 0, 2);
        due(0, "asks", 1, 0, 2);
        due(0, "asks", 0, 1, 2);
        due(1, "asks", 1, 1, 2);
        due(0, "asks", 1, 1, 1);
        go("knows", 0, 3);
        due(0, "asks", 1, 0, 2);
        law(0, "shuns if person = 1 and spark = 1");
        go("force", 0);
        due(1, "asks", 1, 1, 1);
        due(0, "asks", 1, 1, 2);
        due(0, "asks", 0, 1, 1);
        due(0, "asks", 1, 0, 1);
        due(NONE, "asks", 0, 0, 3);
        due(NONE, "asks", 0, 0, -1);
        due(NONE, "asks", 2, 0, 0);
        due(NONE, "asks", -1, 0, 0);
        due(NONE, "asks", 0, 2, 0);
        due(NONE, "asks", 0, -1, 0);
        due(3, "call", 0, 0);
        due(NONE, "asks", 0, 0, 0);
        due(NONE, "asks", 0, 0, 1);
        due(NONE, "asks", 0, 0, 2);
    }

    private static void floorsAndTerms() {
        begin("8");
        kinds(0, 1, 24, 3, 12, 2);
        due(1, "floor", 0);
        due(3, "floor", 24);
        due(2, "floor", 12);
        due(0, "floor", 13);
        due(NONE, "floor", -1);
        due(NONE, "floor", 25);
        due(NONE, "floor", LOW);

        begin("9");
        due(0, "terms", 0, 999);
        due(999, "terms", 0, 7);
        due(1, "terms", 1, 0);
        due(0, "terms", 1, 2);
        due(0, "terms", 2, 9);
        due(9, "terms", 2, 1);
        due(0, "terms", 3, 24);
        due(24, "terms", 3, 3);
        due(-1, "terms", 0, 1000);
        due(-1, "terms", 0, -1);
        due(-1, "terms", 1, 3);
        due(-1, "terms", 1, -1);
        due(-1, "terms", 2, 10);
        due(-1, "terms", 3, 25);
        due(-1, "terms", 4, 0);
        due(-1, "terms", -1, 0);
        due(-1, "terms", LOW, LOW);
        due(7, "count", 13);
        due(2, "count", 14);
        due(1, "count", 15);
        due(3, "count", 16);
    }

    private static void tapes() {
        begin("10");
        due(20, "feed", 0x05021803, 0x07010000, 0x0a02ff01, 0xffffffff, 0x80000000);
        due(20, "count", 6);
        due(40, "feed", 1, 2, 3, 4, 5);
        due(20, "end", 20);
        due(6, "row");
        due(2, "floor", 5);
        due(3, "floor", 24);
        due(1, "floor", 7);
        due(0, "floor", 0);
        due(2, "floor", 10);
        due(4, "ash");
        begin("10");
        for (int i = 1; i <= 20; i++) {
            due(20 * i, "feed", 0, 0, 0, 0, 0);
        }
        due(NONE, "feed", 0, 0, 0, 0, 0);
        due(400, "count", 6);
        due(381, "end", 381);
        due(NONE, "feed", 0, 0, 0, 0, 0);
        due(381, "count", 6);
        due(380, "end", 380);
        due(400, "feed", 0, 0, 0, 0, 0);
        due(0, "status");

        begin("11");
        due(0, "end", 0);
        due(NONE, "end", 1);
        due(NONE, "end", -1);
        go("feed", 0x01020304, 0, 0, 0, 0);
        due(NONE, "end", 21);
        due(NONE, "end", LOW);
        due(20, "end", 20);
        due(3, "end", 3);
        due(NONE, "end", 4);
        due(3, "count", 6);
        due(23, "feed", 0, 0, 0, 0, 0);
        due(0, "end", 0);
        due(0, "count", 6);
    }

    private static void rows() {
        begin("12, 13");
        due(-6, "row");
        due(0, "ash");
        tape((byte) 0, (byte) 3, (byte) 24, (byte) 1, (byte) 25, (byte) 0, (byte) 7, (byte) 4, (byte) 200,
                (byte) 1, (byte) 6);
        due(2, "row");
        due(4, "ash");
        due(3, "floor", 0);
        due(1, "floor", 24);
        due(0, "floor", 7);
        due(0, "floor", 6);
        due(0, "count", 6);
        due(-6, "row");
        due(4, "ash");
        kinds(0, 0, 0, 2, 0, 1);
        due(1, "floor", 0);
        due(0, "ash");
        tape("~~~");
        due(0, "row");
        due(2, "ash");
        due(0, "status");
        due(0, "spark", 7, 5, 5);
        kinds(7, 3);
        due(7, "of", 0, 0);
    }

    private static void laws() {
        begin("14");
        due(-6, "law");
        due(0, "fault");
        lawFault(5, "     ");
        law(0, "bars");
        due(NONE, "fault");
        due(0, "count", 6);
        law(1, "  goes   1  ;  burns[2]if(x=1);shuns;bars if not y>2");
        law(-6, "x");
        law(2, "shuns");
        law(3, "shuns");
        law(4, "shuns");
        law(5, "shuns");
        due(6, "count", 4);
        begin("14");
        for (int i = 0; i < 6; i++) {
            law(i, "goes " + i);
        }
        go("law");
        tape("goes x x");
        due(-5, "law");
        due(0, "count", 6);
        due(NONE, "fault");
        due(-5, "law");
        due(-5, "status");
        go("spark", 12, 5, 5);
        go("spark", 12, 5, 5);
        for (int i = 0; i < 5; i++) {
            due(i - 1, "force", i);
            due(i, "of", 1, 3);
        }
        due(4, "force", 5);
        due(4, "of", 1, 3);
    }

    private static void lawWords() {
        String[] facts = {"spark = 1", "heat = 6", "name = 98", "x = 3", "y = 2", "kind = 2", "far = 3",
            "person = 0 - 1", "minute = 123", "mood = 7"};
        for (String fact : facts) {
            begin("the word of " + fact);
            go("terms", 0, 123);
            go("terms", 2, 7);
            go("terms", 3, 24);
            go("spark", 0, 1, 0);
            go("spark", 13, 6, 98);
            go("person", 13, 8);
            go("person", 14, 8);
            kinds(13, 2, 18, 1);
            law(0, "goes 1;goes 4 if " + fact + ";burns 0-2 if " + fact + ";shuns if "
                    + fact.replace("= 0 - 1", "= 1"));
            go("force", 0);
            due(4, "of", 1, 3);
            due(-2, "of", 1, 4);
            due(1, "asks", 1, 1, 1);
            due(fact.startsWith("person") || fact.startsWith("minute") || fact.startsWith("mood") ? 4 : 1, "of", 0, 3);
        }
        // "bars" sees the CELL to which it would go
        String[] there = {"x = 3", "y = 3", "kind = 1", "far = 2", "person = 0 - 1", "heat = 6"};
        String[] here = {"y = 2", "kind = 2", "far = 3"};
        for (int i = 0; i < there.length + here.length; i++) {
            String fact = i < there.length ? there[i] : here[i - there.length];
            begin("bars if " + fact);
            go("terms", 3, 24);
            go("spark", 13, 6, 98);
            kinds(13, 2, 18, 1);
            law(0, "goes 1;burns 0;bars if " + fact);
            go("force", 0);
            due(1, "pass");
            due(i < there.length ? 13 : 18, "of", 0, 0);
        }
    }

    private static void lawEffects() {
        begin("the last goes, burns that HOLDS, the nearest");
        go("spark", 12, 5, 34);
        String[] texts = {"goes 1;goes 2", "goes 3;goes 2 if x = 0", "goes 4;goes 1 / 0", "goes 3;goes 2 if 1 / 0 = 1",
            "goes 1000", "goes 0 - 9", "goes 2 if x = 9", "burns 2;burns 0-1", "burns 9", "burns 0-9", "burns 1/0"};
        int[] ways = {2, 3, 4, 3, 4, 0, 0, 0, 0, 0, 0};
        int[] burns = {0, 0, 0, 0, 0, 0, 0, -1, 3, -3, 0};
        for (int i = 0; i < texts.length; i++) {
            begin("LAW " + texts[i]);
            go("spark", 12, 5, 34);
            law(0, texts[i]);
            due(NONE, "force", 0);
            due(ways[i], "of", 0, 3);
            due(burns[i], "of", 0, 4);
        }
        begin("any shuns, any bars that HOLDS");
        go("spark", 12, 5, 34);
        go("person", 12, 5);
        law(0, "shuns if heat = 5;shuns if heat = 6;bars if x = 3;bars if x = 9;goes 2;shuns if 1/0=1");
        go("force", 0);
        due(1, "asks", 0, 0, 1);
        go("pass");
        due(12, "of", 0, 0);
        begin("no CLAUSE of that kind");
        go("spark", 12, 5, 34);
        kinds(12, 2);
        law(0, "shuns if heat = 4");
        go("force", 0);
        due(0, "of", 0, 3);
        due(1, "of", 0, 4);
    }

    private static void sumsAndTests() {
        begin("SUMS");
        go("spark", 12, 5, 34);
        sumIs(3, "1+1*2");
        sumIs(2, "9-4-3");
        sumIs(3, "[1+1]*2-1");
        sumIs(2, "12/3/2");
        sumIs(-2, "[0-7]/3");
        sumIs(-1, "[0-7]%3");
        begin("SUMS");
        go("spark", 12, 5, 34);
        sumIs(1, "7%[0-3]");
        sumIs(2, "14%4*[2-1]");
        sumIs(1, "1000*1000*1000-999*1000*1000-1000*999-999");
        sumIs(1, "1000*1000*1000/1000/1000-999");
        sumIs(0, "[1000*1000*1000+1]/1000/1000-999");
        sumIs(-1, "0-1000*1000*1000+1000*1000*1000-1");
        begin("SUMS");
        go("spark", 12, 5, 34);
        sumIs(0, "0-1000*1000*1000-1+1000*1000*1000");
        sumIs(0, "1+0*[1%0]");
        sumIs(0, "1+0/[x-2]");
        sumIs(2, "002");
        sumIs(3, "[[[[[[[[3]]]]]]]]");
        sumIs(1, "heat - 4");

        testIs(1, "x = 2");
        testIs(0, "x < 2");
        testIs(0, "x > 2");
        testIs(1, "x < 3 and y > 1");
        testIs(0, "x < 3 and y > 2");
        testIs(1, "x = 9 or y = 2");
        testIs(1, "x = 2 or y = 9 and y = 8");
        testIs(0, "(x = 2 or y = 9) and y = 8");
        testIs(1, "not x = 3");
        testIs(0, "not not x = 3");
        testIs(1, "not not not x = 3");
        testIs(0, "not x = 2 or y = 9");
        testIs(1, "not x = 3 and y = 2");
        testIs(0, "not (x = 3 or y = 2)");
        testIs(1, "not (x = 3 and y = 2)");
        testIs(1, "not (not (x = 2))");
        testIs(1, "x = 2 or 1 / 0 = 1");
        testIs(0, "x = 3 and 1 / 0 = 1");
        testIs(1, "not (x = 3 and 1 / 0 = 1)");
        testIs(0, "x = 3 or 1 / 0 = 1");
        testIs(0, "1 / 0 = 1 or x = 2");
        testIs(0, "not 1 / 0 = 1");
        testIs(0, "not (1 % 0 = 1 and x = 3)");
        testIs(1, "x = 3 and 1 / 0 = 1 or x = 2");
        testIs(1, "x = 3 or x = 4 or x = 2 or 1/0=1");
        testIs(0, "x = 2 and y = 2 and 1/0=1 or x = 2");
        testIs(1, "[x + 1] * 2 = 6");
        testIs(1, "((((((((x = 2))))))))");
        testIs(1, "(((([[[[x]]]] = 2))))");
        testIs(1, "x + 1 > y - 1 and name / 10 = 3 and name % 10 = 4");
    }

    private static String repeated(String what, String between, int n) {
        StringBuilder b = new StringBuilder();
        for (int i = 0; i < n; i++) {
            b.append(i == 0 ? "" : between).append(what);
        }
        return b.toString();
    }

    private static void limitsOfTexts() {
        begin("12 CLAUSES");
        law(0, repeated("bars", ";", 12));
        lawFault(60, repeated("bars", ";", 13));
        lawFault(60, repeated("bars", ";", 12) + ";");
        lawFault(61, repeated("bars", ";", 12) + "; ~");
        orders(12, repeated("pass", ";", 12));
        orderFault(60, repeated("pass", ";", 13));
        begin("50 PARTS");
        law(0, "goes " + repeated("1", "+", 50));
        lawFault(5 + 100, "goes " + repeated("1", "+", 51));
        law(1, repeated("goes x", ";", 12) + " if " + repeated("1", "+", 20) + "=" + repeated("x", "-", 18));
        lawFault(83 + 4 + 40 + 36, repeated("goes x", ";", 12) + " if " + repeated("1", "+", 20) + "="
                + repeated("x", "-", 19));
        orders(1, "pass times 20 if minute=1000;wet " + repeated("cell 1", "+", 24) + "+1*" + repeated("1", "*", 22)
                + "+[24]");
        due(1, "floor", 1);
        orderFault(4 + 2 * 50, "wet " + repeated("1", "+", 50) + "+cell 9");
        begin("8 brackets");
        law(0, "goes [[[[[[[[1]]]]]]]]+[[[[[[[[1]]]]]]]]");
        lawFault(5 + 8, "goes [[[[[[[[[1]]]]]]]]]");
        law(1, "bars if ((((([[[1]]]=1)))))");
        lawFault(8 + 8, "bars if ((((([[[[1]]]]=1)))))");
        lawFault(8 + 8, "bars if (((((((((1=1)))))))))");
        begin("a TEXT of 400 bytes");
        tape("goes 3" + repeated(" ", "", 393) + "1");
        due(-6, "law");
        due(399, "fault");
        tape("goes " + repeated("0", "", 394) + "3");
        due(0, "law");
        go("spark", 12, 5, 5);
        go("force", 0);
        due(3, "of", 0, 3);
        tape("bars if " + repeated("not ", "", 97) + "x=1;");
        due(-6, "law");
        due(400, "fault");
        tape("bars if " + repeated("not ", "", 97) + "x=1");
        due(1, "law");
    }

    private static void faults() {
        begin("16");
        due(NONE, "fault");
        lawFault(4, "goes");
        lawFault(6, "goes  if x = 1");
        lawFault(0, "if x = 1");
        lawFault(0, ";");
        lawFault(6, "bars ;;");
        lawFault(5, "bars;");
        lawFault(7, "goes 1 1");
        lawFault(7, "goes 1 by 2");
        lawFault(6, "goes 1)");
        lawFault(7, "goes [1)");
        lawFault(6, "goes 1]");
        lawFault(5, "goes (1)");
        lawFault(5, "goes not 1");
        lawFault(5, "goes -1");
        lawFault(7, "goes 1 = 1");
        lawFault(7, "goes 1 and 1 = 1");
        lawFault(6, "goes 1~");
        lawFault(4, "goes\t1");
        lawFault(0, "Goes 1");
        lawFault(5, "goes 1001");
        lawFault(5, "goes 99999999999999999999");
        lawFault(5, "goes done");
        lawFault(5, "goes xx");
        lawFault(7, "bars if");
        lawFault(9, "bars if x");
        lawFault(10, "bars if x and x = 1");
        lawFault(12, "bars if x + = 1");
        lawFault(14, "bars if x = 1 = 1");
        lawFault(10, "bars if (x) = 1");
        lawFault(14, "bars if (x = 1");
        lawFault(14, "bars if (x = 1]");
        lawFault(14, "bars if x = 1 )");
        lawFault(16, "bars if (x = 1) + 1");
        lawFault(11, "bars if [x = 1]");
        lawFault(16, "bars if x = 1 or");
        lawFault(17, "bars if x = 1 and");
        lawFault(18, "bars if x = 1 and )");
        lawFault(11, "bars if not");
        lawFault(14, "bars if x = 1 not x = 1");
        lawFault(12, "bars if x = (1)");
        lawFault(12, "bars if x = not 1");
        lawFault(14, "bars if x = 1 if x = 1");
        lawFault(6, "goes 1\u00e9");
        law(0, "goes 1000");
        due(NONE, "fault");
        lawFault(2, "  ~");
        orders(0, "pass if 1 = 0");
        due(NONE, "fault");

        orderFault(0, "");
        orderFault(3, "   ");
        orderFault(0, "goes 1");
        orderFault(5, "call by 1");
        orderFault(6, "call 1");
        orderFault(7, "call 1 to 1");
        orderFault(9, "call 1 by");
        orderFault(7, "walk 1 by 1");
        orderFault(5, "wet 1~");
        orderFault(6, "wet 1 by 1");
        orderFault(5, "pass 1");
        orderFault(10, "pass times");
        orderFault(11, "pass times 0");
        orderFault(11, "pass times 21");
        orderFault(11, "pass times x");
        orderFault(13, "pass times 2 times 2");
        orderFault(14, "pass if 1 = 1 times 2");
        orderFault(4, "wet x");
        orderFault(8, "wet heat");
        orderFault(9, "wet heat 6");
        orderFault(9, "wet cell minute");
        orderFault(4, "wet spark");
        orderFault(14, "pass if heat 1");
        orders(0, "pass times 020 if heat 05 = 9");
        begin("law() that does not read leaves FAULT");
        for (int i = 0; i < 6; i++) {
            law(i, "bars");
        }
        orderFault(0, "no");
        tape("bars");
        due(-5, "law");
        due(0, "fault");
    }

    private static void orders() {
        begin("15, 17");
        due(-6, "orders");
        due(0, "fault");
        go("spark", 12, 5, 5);
        go("spark", 13, 5, 5);
        go("person", 11, 8);
        go("knows", 0, 1);
        orders(4, "call 0 by 0;wet 12;walk 0 to 1;pass");
        due(0, "count", 6);
        due(11, "of", 0, 0);
        due(1, "floor", 12);
        due(16, "at", 0, 0);
        due(1, "count", 13);
        orders(0, "pass if 1 = 2; wet 99 if 1 / 0 = 1");
        due(0, "status");
        orders(6, "pass times 6");
        due(7, "count", 13);
        orders(-3, "pass;wet 3;call 1 by 0;pass");
        due(2, "stopped");
        due(-3, "status");
        due(7, "count", 13);
        due(0, "floor", 3);
        due(1, "count", 9);
        due(NONE, "fault");
        orders(1, "pass");
        due(NONE, "stopped");
        orders(-3, "pass;pass;wet 25");
        due(2, "stopped");
        due(0, "count", 7);
        orders(-6, "pas");
        due(NONE, "stopped");
        orders(-3, "walk 1 to 1");
        due(0, "stopped");
        orders(-3, "walk 0 to 0");
        orders(-3, "call 2 by 0");
        orders(-3, "call 0 - 1 by 0");
        orders(-3, "pass;wet 1/0");
        due(1, "stopped");
        orders(-3, "walk 0 to 1 times 5");
        due(16, "at", 0, 0);
        orders(2, "walk 0 to 1 times 5 if done < 1;pass");
        due(21, "at", 0, 0);
        go("terms", 0, 990);
        orders(-3, "pass times 10");
        due(0, "stopped");
        due(990, "count", 13);
        orders(9, "pass times 9");
        due(999, "count", 13);
        orders(0, "pass times 20 if minute < 999");
        orders(-3, "pass");
        begin("the most that ORDERS can run");
        orders(240, repeated("pass times 20", ";", 12));
        due(240, "count", 13);
        due(16, "count", 5);
    }

    private static void orderWords() {
        begin("the words of ORDERS");
        go("spark", 12, 5, 5);
        go("spark", 13, 9, 5);
        go("spark", 20, 1, 5);
        go("person", 10, 8);
        go("knows", 0, 63);
        go("terms", 3, 20);
        orders(1, "wet 0 if minute = 0 and done = 0 and latest = 0-1 and loose = 3");
        orders(1, "wet 1 if heat 0 = 5 and heat 1 = 9 and heat 2 = 1 and heat 3 = 0-1 and heat 5 = 0-1");
        orders(1, "wet 2 if cell 0 = 12 and cell 1 = 13 and cell 2 = 20 and cell 3 = 0-1");
        orders(4, "call 0 by 0 if latest = 0-1;call 1 by 0 if latest = 2;wet latest if done = 2;"
                + "call 0 by 0 if latest = 3;pass if latest = 3");
        due(1, "floor", 3);
        begin("latest, done, loose, GONE");
        go("spark", 12, 5, 5);
        go("spark", 13, 9, 5);
        go("person", 10, 8);
        go("knows", 0, 63);
        go("terms", 3, 10);
        orders(4, "call 0 by 0;wet done if loose = 1;pass if heat 0 = 0 and cell 0 = 0 - 1 and minute = 0;"
                + "wet minute + 1 if done = 3 and minute = 1");
        due(1, "floor", 1);
        due(1, "floor", 2);
        orders(0, "pass if latest > 0 - 1 or done > 0");
        begin("each time the if and the SUMS anew");
        orders(5, "wet done times 5");
        due(1, "floor", 0);
        due(1, "floor", 4);
        due(0, "floor", 5);
        orders(3, "pass times 9 if minute < 3");
        due(3, "count", 13);
    }

    private static void ordersUndone() {
        begin("ORDERS that stop leave what can be undone");
        for (int i = 0; i < 16; i++) {
            due(0, "wet", i);
        }
        orders(-3, "pass times 20;wet 1");
        due(1, "stopped");
        due(16, "count", 5);
        for (int i = 15; i >= 0; i--) {
            due(1, "floor", i);
            due(1, "undo");
            due(0, "floor", i);
        }
        due(-3, "undo");
        begin("ORDERS can be undone one by one");
        go("spark", 12, 5, 5);
        go("person", 11, 8);
        go("knows", 0, 1);
        orders(4, "call 0 by 0;wet 12;walk 0 to 1;pass");
        due(3, "undo");
        due(0, "count", 13);
        due(2, "undo");
        due(11, "at", 0, 0);
        due(1, "undo");
        due(0, "floor", 12);
        due(0, "undo");
        due(12, "of", 0, 0);
        due(-3, "undo");
    }

    private static void forces() {
        begin("18");
        due(-2, "force", 0);
        due(NONE, "force", NONE);
        due(0, "status");
        law(0, "goes 2");
        law(1, "goes 3");
        go("spark", 12, 5, 5);
        due(0, "of", 0, 3);
        due(NONE, "force", 1);
        due(0, "status");
        due(3, "of", 0, 3);
        due(1, "force", 0);
        due(2, "of", 0, 3);
        due(-2, "force", 2);
        due(-2, "force", -2);
        due(-2, "force", HIGH);
        due(0, "count", 12);
        due(0, "force", NONE);
        due(0, "of", 0, 3);
        due(NONE, "count", 12);
    }

    private static void calls() {
        begin("19");
        due(-2, "call", 0, 0);
        go("spark", 12, 5, 5);
        due(-2, "call", 0, 0);
        go("person", 14, 2);
        due(-3, "call", 0, 0);
        go("knows", 0, 1);
        due(-2, "call", 1, 0);
        due(-2, "call", 0, 1);
        due(-2, "call", -1, 0);
        due(-2, "call", 0, -1);
        due(-2, "call", HIGH, LOW);
        due(2, "call", 0, 0);
        due(14, "of", 0, 0);
        due(5, "of", 0, 1);
        due(0, "call", 0, 0);
        go("person", 1, 5);
        go("knows", 1, 1);
        due(5, "asks", 0, 1, 0);
        go("person", 0, 5);
        go("knows", 2, 1);
        due(-3, "call", 0, 2);
        due(5, "call", 0, 1);
        due(1, "call", 0, 2);
        due(NONE, "of", 0, 0);
        due(0, "of", 0, 1);
        due(-3, "call", 0, 2);
        due(0, "count", 1);
        begin("19, SHUNNED");
        go("spark", 12, 5, 5);
        go("person", 12, 8);
        go("person", 12, 8);
        go("knows", 0, 1);
        go("knows", 1, 1);
        law(0, "shuns if person = 0");
        go("force", 0);
        due(-3, "call", 0, 0);
        due(0, "call", 0, 1);
    }

    private static void wets() {
        begin("20");
        kinds(3, 2, 4, 3);
        due(-1, "wet", -1);
        due(-1, "wet", 25);
        due(0, "wet", 0);
        due(2, "wet", 3);
        due(-3, "wet", 4);
        due(-3, "wet", 0);
        due(-3, "wet", 3);
        due(1, "floor", 3);
        due(3, "floor", 4);
        due(0, "wet", 24);
    }

    private static void walks() {
        begin("21");
        due(-1, "walk", 0, 0);
        due(-1, "walk", 0, 5);
        due(-1, "walk", 0, -1);
        due(-2, "walk", 0, 1);
        go("person", 12, 8);
        due(-2, "walk", 1, 1);
        due(-2, "walk", -1, 1);
        due(-1, "walk", 1, 9);
        due(17, "walk", 0, 1);
        due(18, "walk", 0, 2);
        due(13, "walk", 0, 3);
        due(12, "walk", 0, 4);
        kinds(13, 3, 11, 1, 17, 2);
        due(-3, "walk", 0, 2);
        due(12, "at", 0, 0);
        due(11, "walk", 0, 4);
        due(10, "walk", 0, 4);
        due(-3, "walk", 0, 4);
        go("person", 4, 8);
        due(-3, "walk", 1, 2);
        due(-3, "walk", 1, 3);
        go("person", 24, 8);
        due(-3, "walk", 2, 1);
        due(-3, "walk", 2, 2);
        due(19, "walk", 2, 3);
        go("person", 20, 8);
        due(-3, "walk", 3, 4);
        due(20, "at", 3, 0);
    }

    private static void passes() {
        begin("22");
        go("terms", 0, 998);
        due(999, "pass");
        due(-3, "pass");
        due(999, "count", 13);
        begin("22, without a LAW");
        go("spark", 12, 5, 5);
        go("spark", 24, 9, 5);
        go("spark", 0, 3, 5);
        go("spark", 1, 2, 5);
        kinds(1, 1, 2, 2, 12, 2);
        go("terms", 3, 24);
        due(1, "pass");
        due(12, "of", 0, 0);
        due(6, "of", 0, 1);
        due(24, "of", 1, 0);
        due(9, "of", 1, 1);
        due(NONE, "of", 2, 0);
        due(0, "of", 2, 1);
        due(NONE, "of", 3, 0);
        due(2, "pass");
        due(17, "of", 0, 0);
        due(24, "of", 1, 0);
        due(2, "count", 1);
        begin("22, to walls it stays, on paper up to 9");
        go("spark", 12, 8, 5);
        kinds(17, 3, 12, 2);
        law(0, "goes 1");
        go("force", 0);
        go("pass");
        due(12, "of", 0, 0);
        due(9, "of", 0, 1);
        go("pass");
        due(9, "of", 0, 1);
        begin("22, first all go, then all burn where they are");
        go("spark", 12, 5, 5);
        law(0, "goes 2 if heat = 5;burns 0-1 if x = 3;burns 1 if x = 2;goes 1 if minute = 1");
        go("force", 0);
        go("pass");
        due(13, "of", 0, 0);
        due(4, "of", 0, 1);
        go("pass");
        due(18, "of", 0, 0);
        due(3, "of", 0, 1);
        begin("22, through HOME");
        go("spark", 1, 5, 5);
        law(0, "goes 4");
        go("force", 0);
        go("pass");
        due(0, "of", 0, 0);
        due(5, "of", 0, 1);
        go("pass");
        due(0, "of", 0, 0);
        begin("22, out of a wall");
        go("spark", 12, 5, 5);
        kinds(12, 3);
        law(0, "goes 4");
        go("force", 0);
        go("pass");
        due(11, "of", 0, 0);
    }

    private static void undos() {
        begin("23");
        due(-3, "undo");
        go("spark", 12, 5, 5);
        go("person", 0, 8);
        go("knows", 0, 1);
        kinds(5, 2);
        due(4, "call", 0, 0);
        due(2, "wet", 5);
        due(5, "walk", 0, 1);
        due(1, "pass");
        due(-3, "call", 0, 0);
        due(4, "count", 5);
        due(1, "knows", 0, 0);
        law(0, "bars");
        go("force", 0);
        go("answer", 0, 1);
        due(3, "undo");
        due(2, "undo");
        due(1, "undo");
        due(2, "floor", 5);
        due(0, "undo");
        due(12, "of", 0, 0);
        due(5, "of", 0, 1);
        due(0, "at", 0, 2);
        due(0, "count", 12);
        due(1, "count", 3);
        due(0, "count", 13);
        due(-3, "undo");
        String[] barriers = {"spark", "person", "terms"};
        for (String barrier : barriers) {
            begin("23, nothing ahead of " + barrier);
            go("pass");
            due(-1, "spark", 1, 0, 0);
            due(-1, "person", -1, 0);
            due(-1, "terms", 0, -1);
            due(-6, "row");
            due(1, "count", 5);
            go(barrier, 1, 1, 1);
            due(0, "count", 5);
            due(-3, "undo");
            due(1, "count", 13);
            go("wet", 3);
            due(1, "undo");
            due(-3, "undo");
        }
        begin("23, nothing ahead of row");
        go("pass");
        tape("~");
        due(0, "row");
        due(-3, "undo");
        begin("23, 16 are kept");
        for (int i = 1; i <= 17; i++) {
            due(i, "pass");
        }
        due(16, "count", 5);
        due(0, "wet", 0);
        due(-3, "wet", 0);
        due(16, "count", 5);
        due(1, "undo");
        for (int i = 0; i < 15; i++) {
            due(3, "undo");
        }
        due(-3, "undo");
        due(2, "count", 13);
        begin("23, undone and done again");
        go("wet", 1);
        go("wet", 2);
        due(1, "undo");
        go("wet", 3);
        due(1, "undo");
        due(1, "floor", 1);
        due(0, "floor", 2);
        due(0, "floor", 3);
        due(1, "undo");
        due(0, "floor", 1);
    }

    private static void wheres() {
        begin("24");
        go("spark", 12, 5, 5);
        go("spark", 0, 5, 5);
        due(12, "where", 0, 0);
        due(12, "where", 0, 1);
        due(17, "where", 0, 2);
        due(18, "where", 0, 3);
        due(13, "where", 0, 4);
        due(12, "where", 0, 5);
        due(12, "where", 0, 60);
        due(NOTHING, "where", 0, 61);
        due(NOTHING, "where", 0, -1);
        due(NOTHING, "where", 2, 0);
        due(NOTHING, "where", -1, 0);
        due(12, "of", 0, 0);
        due(0, "count", 13);
        due(0, "count", 5);
        kinds(17, 1, 18, 1);
        due(17, "where", 0, 2);
        due(NONE, "where", 0, 3);
        due(NONE, "where", 0, 4);
        begin("24, beyond MINUTE 999");
        go("spark", 12, 5, 5);
        go("terms", 0, 999);
        due(11, "where", 0, 1);
        due(11, "where", 0, 2);
        due(16, "where", 0, 3);
        law(0, "goes 0;goes 2 if minute = 1000");
        go("force", 0);
        due(12, "where", 0, 1);
        due(13, "where", 0, 2);
        due(13, "where", 0, 9);
        begin("24, GONE");
        go("spark", 12, 5, 5);
        go("person", 0, 8);
        go("knows", 0, 1);
        go("call", 0, 0);
        due(NONE, "where", 0, 0);
        due(NONE, "where", 0, 7);
    }

    private static void firsts() {
        begin("25");
        due(NONE, "first", 12, 0);
        go("spark", 10, 5, 5);
        go("spark", 12, 5, 5);
        go("spark", 12, 5, 5);
        due(0, "first", 12, 0);
        due(1, "first", 12, 1);
        due(1, "first", 13, 0);
        due(2, "first", 13, 1);
        due(NONE, "first", 13, 2);
        due(NONE, "first", 13, -1);
        due(NONE, "first", -1, 0);
        due(NONE, "first", 25, 0);
        due(NONE, "first", 4, 0);
        due(NONE, "first", 4, 1);
        begin("25, 60 MINUTES and no more");
        go("spark", 12, 5, 5);
        law(0, "goes 0;goes 1 if minute = 59");
        law(1, "goes 0;goes 1 if minute = 60");
        go("force", 0);
        due(60, "first", 17, 0);
        due(0, "first", 17, 1);
        go("force", 1);
        due(NONE, "first", 17, 0);
        due(NONE, "first", 17, 1);
        due(12, "of", 0, 0);
        go("terms", 0, 990);
        law(2, "goes 0;goes 1 if minute > 1000");
        go("force", 2);
        due(12, "first", 17, 0);
    }

    private static void chains() {
        begin("26");
        due(NONE, "chain", 0, NONE);
        go("spark", 24, 5, 5);
        due(NONE, "chain", 0, NONE);
        go("person", 0, 2);
        go("person", 2, 3);
        go("person", 14, 2);
        go("person", 1, 3);
        go("person", 5, 2);
        for (int i = 0; i < 5; i++) {
            go("knows", i, 1);
        }
        // 24 to 14 (2 far), to 2 (4 far: no), to 1 (5 far: no) ..
        due(NONE, "chain", 0, NONE);
        go("walk", 2, 3);
        go("walk", 2, 4);
        due(8, "at", 2, 0);
        due(NONE, "chain", 0, NONE);
        begin("26, the fewest, then the first");
        go("spark", 24, 5, 5);
        go("person", 0, 2);
        go("person", 18, 2);
        go("person", 7, 3);
        go("person", 1, 8);
        go("person", 5, 8);
        for (int i = 0; i < 5; i++) {
            go("knows", i, 1);
        }
        due(2, "chain", 0, NONE);
        due(3, "chain", 0, 0);
        due(0, "chain", 0, 1);
        due(NONE, "chain", 0, 2);
        due(NONE, "chain", 0, -2);
        due(NONE, "chain", 0, HIGH);
        due(NONE, "chain", 1, NONE);
        due(NONE, "chain", -1, NONE);
        go("knows", 3, 0);
        due(4, "chain", 0, 0);
        go("knows", 4, 62);
        due(NONE, "chain", 0, NONE);
        go("person", 2, 2);
        due(24, "of", 0, 0);
        begin("26, four CALLS");
        go("spark", 24, 5, 5);
        go("person", 0, 2);
        go("person", 18, 2);
        go("person", 7, 3);
        go("person", 2, 3);
        for (int i = 0; i < 4; i++) {
            go("knows", i, 1);
        }
        due(4, "chain", 0, NONE);
        due(1, "chain", 0, 0);
        due(2, "chain", 0, 1);
        due(3, "chain", 0, 2);
        due(0, "chain", 0, 3);
        due(NONE, "chain", 0, 4);
        law(0, "shuns if person = 2 and x = 3 and y = 3 and far = 6 and kind = 0");
        go("force", 0);
        due(NONE, "chain", 0, NONE);
        due(0, "asks", 0, 2, 1);
        due(0, "wet", 18);
        due(4, "chain", 0, NONE);
        law(1, "shuns if minute > 0 or heat > 5");
        go("force", 1);
        due(4, "chain", 0, NONE);
        begin("26, five CALLS");
        go("spark", 24, 5, 5);
        int[] row = {3, 4, 9, 14, 19};
        for (int i = 0; i < 5; i++) {
            go("person", row[i], 1);
            go("knows", i, 1);
        }
        go("terms", 3, 3);
        due(5, "chain", 0, NONE);
        for (int i = 0; i < 5; i++) {
            due(4 - i, "chain", 0, i);
        }
        due(NONE, "chain", 0, 5);
        begin("26, in HOME's CELL, but not called there");
        go("spark", 0, 5, 5);
        due(NONE, "chain", 0, NONE);
        go("person", 1, 8);
        go("knows", 0, 1);
        due(NONE, "chain", 0, NONE);
        go("person", 0, 8);
        go("knows", 1, 1);
        due(1, "chain", 0, NONE);
        due(1, "chain", 0, 0);
        due(0, "call", 0, 1);
        due(NONE, "chain", 0, NONE);
        due(NONE, "chain", 0, 0);
    }

    private static void answers() {
        begin("27, 28");
        due(-1, "answer", 0, 2);
        due(-1, "answer", 0, -1);
        due(-2, "answer", 0, 1);
        go("person", 0, 8);
        go("person", 0, 8);
        go("person", 0, 8);
        due(-2, "answer", 3, 1);
        due(-2, "answer", -1, 1);
        for (int i = 1; i <= 6; i++) {
            due(i, "answer", i % 3, i % 2);
        }
        due(-5, "answer", 0, 1);
        due(-5, "status");
        due(1, "count", 10);
        due(-2, "answer", 9, 1);
        due(-1, "answer", 0, 9);
        due(6, "count", 3);
        due(6, "forget");
        due(0, "forget");
        due(0, "count", 3);
        due(1, "answer", 0, 1);

        begin("29, 30");
        due(0, "which");
        due(NONE, "let", 0);
        for (int i = 0; i < 5; i++) {
            go("spark", i + 5, 5, 5);
        }
        due(31, "which");
        due(NONE, "let", 0);
        due(NONE, "let", 1);
        go("person", 0, 8);
        go("knows", 0, 1);
        go("person", 0, 8);
        go("knows", 1, 63 - 1 - 2);
        go("person", 0, 8);
        go("knows", 2, 2 + 8 + 32);
        due(1, "let", 0);
        due(3, "let", 1);
        due(NONE, "let", 2);
        due(NONE, "let", -1);
        go("answer", 1, 1);
        due(28, "which");
        due(2, "let", 0);
        due(2, "let", 1);
        go("answer", 2, 0);
        due(20, "which");
        due(0, "let", 0);
        due(2, "let", 1);
        go("knows", 2, 4);
        due(24, "which");
        go("knows", 0, 8);
        due(0, "let", 0);
        due(1, "let", 1);
        go("answer", 2, 1);
        due(0, "which");
        due(NONE, "let", 0);
        due(NONE, "let", 1);
        go("forget");
        due(31, "which");
        go("answer", 0, 1);
        due(8, "which");
        due(0, "let", 0);
        due(1, "let", 1);
        go("knows", 0, 63);
        go("call", 1, 0);
        due(NONE, "of", 1, 0);
        due(31, "which");
    }

    private static void alikes() {
        begin("31, 32");
        due(0, "alike", NONE);
        due(0, "anew", 0);
        due(0, "anew", 1);
        int[] names = {12, 34, 14, 50, 5, 92};
        for (int name : names) {
            go("spark", 12, 5, name);
        }
        // 12 and 14 the ten, 34 and 14 the one, 12 and 92 the one; 50 and 05 nothing
        due(3, "alike", NONE);
        due(2, "alike", 0);
        due(5, "alike", 1);
        due(12, "alike", 2);
        due(NONE, "alike", 3);
        due(NONE, "alike", -2);
        due(NONE, "alike", HIGH);
        due(2, "anew", 0);
        due(3, "anew", 1);
        due(NONE, "anew", 2);
        due(NONE, "anew", -1);
        begin("31, 32, GONE ones too");
        go("spark", 0, 5, 3);
        go("spark", 0, 5, 4);
        go("spark", 0, 5, 5);
        go("person", 0, 8);
        go("knows", 0, 63);
        go("call", 0, 0);
        due(3, "alike", NONE);
        due(1, "alike", 0);
        due(2, "alike", 1);
        due(12, "alike", 2);
        due(2, "anew", 0);
        due(3, "anew", 1);
        begin("32, the middle one");
        go("spark", 0, 5, 12);
        go("spark", 0, 5, 45);
        go("spark", 0, 5, 42);
        due(1, "anew", 0);
        due(4, "anew", 1);
    }

    private static void guards() {
        begin("33");
        due(0, "guard", 4, 0);
        due(0, "guard", 0, 1);
        due(NONE, "guard", 5, 0);
        due(NONE, "guard", -1, 0);
        due(NONE, "guard", 0, 2);
        due(NONE, "guard", 0, -1);
        go("spark", 10, 5, 3);
        due(NONE, "guard", 0, 0);
        go("spark", 10, 5, 3);
        go("spark", 10, 5, 3);
        int[] known = {1, 2, 4, 6, 7 + 32};
        for (int k : known) {
            go("person", 0, 8);
            go("knows", (int) Face.ask(x, "count", 2) - 1, k);
        }
        due(1, "guard", 0, 0);
        due(16, "guard", 0, 1);
        due(3, "guard", 1, 0);
        due(1 + 8 + 16, "guard", 1, 1);
        due(NONE, "guard", 2, 0);
        due(NONE, "guard", 2, 1);
        go("call", 0, 4);
        due(4, "guard", 2, 0);
        begin("33, GONE ones need none, the lowest");
        go("spark", 10, 5, 3);
        go("spark", 10, 5, 3);
        for (int i = 0; i < 5; i++) {
            go("person", 0, 8);
            go("knows", i, i == 3 ? 1 : 2);
        }
        due(2, "guard", 0, 0);
        due(9, "guard", 0, 1);
        due(NONE, "guard", 1, 0);
        go("call", 0, 3);
        due(1, "guard", 0, 0);
        due(1, "guard", 0, 1);
        due(4, "guard", 3, 0);
        due(1 + 2 + 4 + 16, "guard", 3, 1);
        due(NONE, "guard", 4, 0);
    }

    private static void lessons() {
        begin("34");
        due(0, "lessons", 0);
        due(NONE, "lessons", 1);
        due(NONE, "lessons", -1);
        go("spark", 10, 5, 3);
        go("spark", 10, 5, 3);
        go("spark", 10, 5, 3);
        for (int i = 0; i < 5; i++) {
            due(NONE, "lessons", i + 1);
            go("person", 0, 8);
        }
        due(0, "lessons", 0);
        due(3, "lessons", 1);
        due(15, "lessons", 5);
        due(NONE, "lessons", 6);
        go("knows", 0, 1 + 2 + 8);
        go("knows", 1, 1 + 16);
        due(1, "lessons", 1);
        due(3, "lessons", 2);
        due(12, "lessons", 5);
        go("call", 0, 0);
        due(3, "lessons", 2);
    }

    private static void dueLong(long want, int spark, int n, int cell) {
        asked++;
        long got = x.drift(spark, n, cell);
        if (got != want) {
            wrong++;
            System.out.println(about + ": drift(" + spark + ", " + n + ", " + cell + ") answered " + got
                    + ", due is " + want);
        }
    }

    private static void drifts() {
        begin("35, 36");
        due(NONE, "sodden", 0, 0);
        go("spark", 12, 5, 3);
        dueLong(1000000000000L, 0, 0, 12);
        dueLong(0L, 0, 0, 13);
        dueLong(600000000000L, 0, 1, 12);
        dueLong(100000000000L, 0, 1, 17);
        dueLong(100000000000L, 0, 1, 11);
        dueLong(400000000000L, 0, 2, 12);
        dueLong(120000000000L, 0, 2, 13);
        dueLong(20000000000L, 0, 2, 18);
        dueLong(10000000000L, 0, 2, 14);
        dueLong(NONE, 0, 61, 12);
        dueLong(NONE, 0, -1, 12);
        dueLong(NONE, 0, 0, 25);
        dueLong(NONE, 0, 0, -1);
        dueLong(NONE, 1, 0, 0);
        dueLong(NONE, -1, 0, 0);
        due(12, "sodden", 0, 0);
        due(12, "sodden", 0, 60);
        due(NONE, "sodden", 0, 61);
        due(NONE, "sodden", 0, -1);
        due(NONE, "sodden", 1, 0);
        long whole = 0;
        for (int i = 0; i < 25; i++) {
            whole += x.drift(0, 60, i);
        }
        asked++;
        if (whole != 1000000000000L) {
            wrong++;
            System.out.println(about + ": the parts are together " + whole);
        }
        go("terms", 1, 0);
        dueLong(1000000000000L, 0, 60, 12);
        go("terms", 1, 2);
        dueLong(200000000000L, 0, 1, 12);
        dueLong(200000000000L, 0, 1, 13);
        due(7, "sodden", 0, 1);
        kinds(13, 3, 7, 3, 11, 1, 17, 2);
        dueLong(600000000000L, 0, 1, 12);
        dueLong(0L, 0, 1, 13);
        dueLong(200000000000L, 0, 1, 11);
        begin("35, cut");
        go("spark", 0, 5, 3);
        kinds(5, 3, 2, 3, 6, 3);
        // between CELLS 0 and 1 alone: after 13 MINUTES parts that ten does not divide
        long a = 1000000000000L;
        long b = 0;
        for (int i = 1; i <= 60; i++) {
            long toB = a / 10;
            long toA = b / 10;
            a = a - toB + toA;
            b = b - toA + toB;
            dueLong(a, 0, i, 0);
            dueLong(b, 0, i, 1);
        }
        go("person", 0, 8);
        go("knows", 0, 1);
        go("call", 0, 0);
        dueLong(NONE, 0, 0, 0);
        due(NONE, "sodden", 0, 0);
    }

    private static void hots() {
        begin("37");
        due(0, "hot", NONE, 0);
        due(NONE, "hot", 0, 0);
        go("spark", 12, 5, 3);
        go("spark", 13, 4, 3);
        kinds(13, 2);
        law(0, "burns 0-1;goes 0");
        law(1, "burns 1;goes 0");
        go("force", 1);
        due(9, "hot", 0, 0);
        due(7, "hot", 0, 1);
        due(1, "hot", 0, 4);
        due(0, "hot", 0, 5);
        due(11, "hot", 1, 1);
        due(18, "hot", 1, 60);
        due(9, "hot", NONE, 1);
        due(NONE, "hot", 2, 0);
        due(NONE, "hot", -2, 0);
        due(NONE, "hot", 0, 61);
        due(NONE, "hot", 0, -1);
        due(1, "count", 12);
        due(5, "of", 0, 1);
        go("terms", 0, 999);
        due(5, "hot", 0, 2);
    }

    private static void nights() {
        begin("38, 39");
        due(-1, "nights", -1, 1);
        due(-1, "nights", 1000001, 1);
        due(-1, "nights", 0, 0);
        due(-1, "nights", 0, 61);
        due(-3, "nights", 0, 1);
        go("spark", 12, 5, 3);
        due(-3, "nights", 0, 1);
        begin("38, 39");
        go("person", 12, 8);
        due(-3, "nights", 1000000, 60);
        go("spark", 12, 5, 3);
        go("knows", 0, 1);
        due(NOTHING, "drawn", 0, 0);
        // with one SPARK, one PERSON the third DRAW decides: 0: 685,113 of 3 is 0
        long s = 0;
        int calls = 0;
        int person = 12;
        int spark = 12;
        for (int n = 1; n <= 60; n++) {
            for (int i = 0; i < 3; i++) {
                s = (s * 1103 + 12345) % 1000003;
            }
            if (s % 3 == 0 && spark != NONE) {
                calls++;
                spark = person;
            } else if (s % 3 == 1 && person < 20) {
                person += 5;
            }
            int way = (n - 1) % 5;
            if (way == 1 && spark < 20) {
                spark += 5;
            } else if (way == 2 && spark % 5 < 4) {
                spark++;
            } else if (way == 3 && spark >= 5) {
                spark -= 5;
            } else if (way == 4 && spark % 5 > 0) {
                spark--;
            }
            due(calls, "nights", 0, n);
            due(spark, "drawn", 0, 0);
            due(5, "drawn", 0, 1);
            due(person, "drawn", 0, 2);
        }
        due(12, "of", 0, 0);
        due(12, "at", 0, 0);
        due(0, "count", 13);
        due(NOTHING, "drawn", 1, 0);
        due(NOTHING, "drawn", 1, 1);
        due(NOTHING, "drawn", 1, 2);
        due(NOTHING, "drawn", -1, 0);
        due(NOTHING, "drawn", 0, 3);
        due(NOTHING, "drawn", 0, -1);
        due(-1, "nights", 0, 0);
        due(spark, "drawn", 0, 0);
        go("spark", 1, 5, 3);
        go("person", 1, 5);
        due(NOTHING, "drawn", 1, 0);
        due(NOTHING, "drawn", 1, 2);
        begin("38, GONE at HOME; ends at MINUTE 999");
        go("spark", 12, 5, 3);
        go("person", 0, 8);
        go("knows", 0, 1);
        law(0, "goes 0");
        go("force", 0);
        s = 77;
        int n = 0;
        do {
            for (int i = 0; i < 3; i++) {
                s = (s * 1103 + 12345) % 1000003;
            }
            n++;
        } while (s % 3 == 2);
        due(s % 3 == 0 ? 1 : 0, "nights", 77, n);
        due(s % 3 == 0 ? NONE : 12, "drawn", 0, 0);
        due(s % 3 == 0 ? 0 : 5, "drawn", 0, 1);
        due(s % 3 == 0 ? 0 : 5, "drawn", 0, 2);
        go("terms", 0, 999);
        due(0, "nights", 77, 60);
        due(12, "drawn", 0, 0);
        due(0, "drawn", 0, 2);
        law(1, "goes 0;burns 0-1");
        go("force", 1);
        go("knows", 0, 0);
        go("terms", 0, 996);
        due(0, "nights", 77, 60);
        due(2, "drawn", 0, 1);
        due(0, "nights", 77, 2);
        due(3, "drawn", 0, 1);
    }

    private static void images() {
        begin("40, 41");
        due(-1, "image", -1);
        due(-1, "image", 2);
        due(-1, "back", -1);
        due(-1, "back", 2);
        due(-2, "back", 0);
        due(-2, "back", 1);
        due(0, "image", 1);
        due(-2, "back", 0);
        go("spark", 12, 5, 3);
        go("person", 0, 8);
        go("knows", 0, 5);
        go("answer", 0, 1);
        go("terms", 0, 5);
        go("terms", 1, 2);
        go("terms", 2, 7);
        go("terms", 3, 9);
        kinds(7, 3, 8);
        law(0, "goes 3");
        go("force", 0);
        due(0, "image", 0);
        go("spark", 13, 5, 3);
        go("person", 1, 8);
        go("knows", 0, 9);
        go("answer", 0, 1);
        go("terms", 1, 0);
        go("terms", 2, 1);
        go("terms", 3, 1);
        kinds(7, 0, 11, 3);
        law(1, "goes 1");
        go("force", 1);
        due(6, "pass");
        due(17, "of", 0, 0);
        due(-6, "law");
        orders(-3, "pass;wet 11");
        tape((byte) 99, (byte) 0, (byte) 1);
        due(0, "row");
        due(2, "ash");
        go("nights", 3, 3);
        int drawn = (int) Face.ask(x, "drawn", 1, 0);
        due(7, "pass");
        go("feed", 1, 2, 3, 4, 5);
        due(0, "back", 0);
        due(0, "status");
        due(20, "count", 6);
        due(NONE, "fault");
        due(1, "stopped");
        due(2, "ash");
        due(drawn, "drawn", 1, 0);
        due(0, "count", 5);
        due(-3, "undo");
        due(1, "count", 0);
        due(1, "count", 2);
        due(1, "count", 3);
        due(1, "count", 4);
        due(0, "count", 12);
        due(5, "count", 13);
        due(2, "count", 14);
        due(7, "count", 15);
        due(9, "count", 16);
        due(12, "of", 0, 0);
        due(3, "of", 0, 3);
        due(5, "at", 0, 2);
        due(3, "floor", 7);
        due(0, "floor", 11);
        due(4, "count", 7);
        due(3, "count", 8);
        due(0, "end", 0);
        law(1, "goes 4");
        due(0, "force", 1);
        due(4, "of", 0, 3);
        due(0, "back", 1);
        due(0, "count", 0);
        due(0, "count", 4);
        due(0, "back", 0);
        due(3, "of", 0, 3);
        due(12, "of", 0, 0);
        due(5, "at", 0, 2);
        go("terms", 2, 3);
        due(0, "image", 0);
        go("terms", 2, 4);
        due(0, "back", 0);
        due(3, "count", 15);
        begin("41, ANSWERS and NAMES");
        go("spark", 12, 5, 11);
        go("spark", 12, 5, 22);
        go("person", 1, 1);
        go("knows", 0, 1);
        go("person", 1, 1);
        go("knows", 1, 2);
        go("answer", 0, 1);
        go("image", 0);
        due(0, "alike", NONE);
        due(1, "which");
        due(1, "forget");
        go("answer", 1, 0);
        go("answer", 0, 0);
        due(0, "which");
        due(0, "back", 0);
        due(1, "which");
        due(1, "count", 3);
        go("image", 1);
        go("forget");
        go("answer", 0, 0);
        due(2, "which");
        due(0, "back", 1);
        due(1, "which");
        due(0, "alike", NONE);
        begin("40 leaves what can be undone, 41 REFUSED too");
        go("pass");
        go("image", 0);
        due(1, "count", 5);
        due(-2, "back", 1);
        due(1, "count", 5);
        due(3, "undo");
        due(0, "back", 0);
        due(1, "count", 13);
        due(-3, "undo");
    }

    private static void counts() {
        begin("42");
        go("spark", 12, 5, 3);
        go("spark", 12, 5, 3);
        go("person", 0, 8);
        go("knows", 0, 1);
        go("answer", 0, 0);
        law(0, "bars");
        law(1, "bars");
        go("force", 1);
        go("terms", 0, 4);
        go("terms", 1, 2);
        go("terms", 2, 9);
        go("call", 0, 0);
        go("feed", 0, 0, 0, 0, 0);
        go("wet", -1);
        go("wet", 25);
        go("call", 5, 5);
        go("force", 7);
        go("back", 0);
        go("call", 0, 0);
        go("end", 0);
        for (int i = 0; i < 5; i++) {
            go("row");
        }
        for (int i = 0; i < 7; i++) {
            go("person", 3, 3);
        }
        // what is not REFUSED, though it answers NONE or NOTHING
        go("feed", 0, 0, 0, 0, 0);
        go("end", 99);
        go("of", 9, 9);
        go("at", 9, 9);
        go("chain", 9, 9);
        go("lessons", 9);
        int[] due = {2, 1, 5, 1, 2, 0, 20, 2, 3, 1, 3, 5, 1, 4, 2, 9, 0};
        for (int i = 0; i < due.length; i++) {
            due(due[i], "count", i);
        }
        due(NONE, "count", 17);
        due(NONE, "count", -1);
        due(NONE, "count", HIGH);
        due(NONE, "count", LOW);
        go("pass");
        due(1, "count", 5);
    }

    private static void dueStatus(int want, String name, int... a) {
        go("pass");
        go("terms", 0, 0);
        go(want == 0 ? "wet" : "pass", 77);
        due(want == 0 ? -1 : 0, "status");
        go(name, a);
        due(want, "status");
    }

    private static void statuses() {
        begin("43");
        due(0, "status");
        dueStatus(-1, "spark", 0, 0, 0);
        dueStatus(-1, "person", 0, 9);
        dueStatus(-1, "knows", 0, 64);
        dueStatus(-2, "knows", 0, 3);
        dueStatus(-1, "terms", 4, 0);
        dueStatus(-6, "row");
        dueStatus(-6, "law");
        dueStatus(-6, "orders");
        dueStatus(-2, "force", 0);
        dueStatus(-2, "call", 0, 0);
        dueStatus(-1, "wet", 25);
        dueStatus(-1, "walk", 0, 0);
        dueStatus(-2, "walk", 0, 1);
        dueStatus(-1, "answer", 0, 2);
        dueStatus(-2, "answer", 0, 1);
        dueStatus(-1, "nights", -1, 1);
        dueStatus(-3, "nights", 1, 1);
        dueStatus(-1, "image", 2);
        dueStatus(-1, "back", 2);
        dueStatus(-2, "back", 0);
        due(-2, "status");
        go("terms", 0, 999);
        go("pass");
        due(-3, "status");
        go("undo");
        due(-3, "status");
        // these have no part in it
        go("of", 0, 0);
        go("end", 0);
        go("feed", 0, 0, 0, 0, 0);
        go("forget");
        go("which");
        go("count", 0);
        due(-3, "status");
        dueStatus(0, "spark", 12, 5, 5);
        dueStatus(0, "person", 12, 5);
        dueStatus(0, "knows", 0, 1);
        dueStatus(0, "terms", 3, 24);
        dueStatus(0, "row");
        dueStatus(0, "force", NONE);
        dueStatus(0, "call", 0, 0);
        dueStatus(0, "wet", 3);
        dueStatus(0, "walk", 0, 1);
        dueStatus(0, "pass");
        dueStatus(0, "answer", 0, 1);
        dueStatus(0, "nights", 5, 5);
        dueStatus(0, "image", 0);
        dueStatus(0, "back", 0);
        tape("bars");
        dueStatus(0, "law");
        tape("pass");
        dueStatus(0, "orders");
        go("pass");
        go("wet", 99);
        go("undo");
        due(0, "status");
        go("spark", 1, 1, 1);
        go("spark", 1, 1, 1);
        go("spark", 1, 1, 1);
        go("spark", 1, 1, 1);
        go("spark", 1, 1, 1);
        dueStatus(-5, "spark", 1, 1, 1);
    }
}
