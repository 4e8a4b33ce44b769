/** Terms I, IV and the constants: the bounds of the words in capitals. */
final class TermsEdges extends Edges {
    private TermsEdges() {
    }

    static void run() {
        cells();
        kinds();
        homeAndWays();
        fars();
        sparkNumbers();
        peopleNumbers();
        termNumbers();
        reasons();
        firstReason();
        seeds();
        draws();
        nightDeeds();
        nightEnds();
        rowsAndAsh();
        imagesKeep();
        imagesOfTwoRooms();
        constants();
    }

    private static void cells() {
        edge("I: 2, 4, 8, 9, 20, 25, 35", "CELLS 0 .. 24 (5 times y and x; x, y 0 .. 4)");
        busy();
        for (int cell : new int[] {-1, 25, LOW, HIGH}) {
            refused(-1, "spark", cell, 5, 5);
            refused(-1, "person", cell, 5);
            refused(-1, "wet", cell);
            refused(-1, "terms", 3, cell);
            idle(NONE, "floor", cell);
            idle(NONE, "first", cell, 0);
            idle(NONE, "drift", 0, 0, cell);
        }
        again();
        sparks(0, 4, 20, 24);
        rule("goes x;burns y-2");
        int[] columns = {0, 4, 0, 4};
        int[] rows = {0, 0, 4, 4};
        for (int k = 0; k < 4; k++) {
            due(columns[k], "of", k, 3);
            due(rows[k] - 2, "of", k, 4);
        }
        due(0, "floor", 0);
        due(0, "floor", 24);
        due(0, "first", 0, 0);
        due(0, "first", 24, 0);
        due(1000000000000L, "drift", 0, 0, 0);
        due(0, "drift", 0, 0, 24);
        due(0, "wet", 0);
        due(0, "wet", 24);
        due(0, "person", 0, 0);
        due(1, "person", 24, 0);
        due(0, "terms", 3, 24);
        due(24, "terms", 3, 0);
    }

    private static void kinds() {
        edge("I: 8, 12", ": a KIND: 0 floor, 1 wet, 2 paper, 3 wall (0 at first)");
        for (int cell = 0; cell < 25; cell++) {
            due(0, "floor", cell);
        }
        sparks(6, 7, 8, 9);
        row(4, 3, 6, 0, 7, 1, 8, 2, 9, 3, 10, 4, 11, 255, 12, 128);
        int[] burns = {0, -3, 1, 0};
        for (int kind = 0; kind <= 3; kind++) {
            due(kind, "floor", 6 + kind);
            due(0, "floor", 10 + kind);
            due(burns[kind], "of", kind, 4);
            due(kind == 3 ? -3 : kind, "person", 6 + kind, 1);
        }
    }

    private static void homeAndWays() {
        edge("I: 9, 19, 42", "HOME is a CELL (0 at first)");
        due(0, "count", 16);
        sparks(1, 23);
        people(0, 24);
        due(1, "call", 0, 0);
        due(NONE, "of", 0, 0);
        due(0, "terms", 3, 24);
        due(24, "count", 16);
        due(7, "call", 1, 0);
        due(0, "of", 1, 0);
        due(8, "call", 1, 1);
        due(NONE, "of", 1, 0);
        refused(-1, "terms", 3, -1);
        refused(-1, "terms", 3, 25);

        edge("I: 3, 21, 22", "WAYS 1 up (y one more), 2 right (x one more), 3 down, 4 left; 0 stays");
        people(12);
        due(17, "walk", 0, 1);
        due(18, "walk", 0, 2);
        due(13, "walk", 0, 3);
        due(12, "walk", 0, 4);
        refused(-1, "walk", 0, 0);
        refused(-1, "walk", 0, 5);
        int[] to = {12, 17, 13, 7, 11};
        for (int way = 0; way <= 4; way++) {
            again();
            sparks(12);
            rule("goes " + way);
            due(way, "of", 0, 3);
            due(1, "pass");
            due(to[way], "of", 0, 0);
        }
    }

    private static void fars() {
        edge("I: 7, 19", "FAR of two CELLS: rows and columns they are apart, together");
        sparks(0, 4, 20, 24, 12);
        people(0, 4, 20, 24, 7);
        int[][] far = {{0, 4, 4, 8, 3}, {4, 0, 8, 4, 3}, {4, 8, 0, 4, 5}, {8, 4, 4, 0, 5}, {4, 4, 4, 4, 1}};
        for (int k = 0; k < 5; k++) {
            for (int p = 0; p < 5; p++) {
                due(far[k][p], "asks", k, p, 0);
            }
        }
        // next to one another by number, but not by rows and columns
        again();
        sparks(4);
        people(5);
        due(5, "asks", 0, 0, 0);
    }

    private static void sparkNumbers() {
        edge("I: 2, 42", "SPARKS 0 .. 5 (6 at most)");
        due(0, "count", 0);
        for (int k = 0; k < 6; k++) {
            idle(NOTHING, "of", k, 0);
            due(k, "spark", k + 1, 5, k);
            due(k + 1, "of", k, 0);
            due(k + 1, "count", 0);
        }
        refused(-5, "spark", 12, 5, 5);
        idle(NOTHING, "of", 6, 0);

        edge("I: 2, 3", ": a CELL, or GONE (NONE)");
        sparks(24);
        people(0);
        due(24, "of", 0, 0);
        due(8, "call", 0, 0);
        due(NONE, "of", 0, 0);

        edge("I: 2, 3, 22", "HEAT 0 .. 9 (0 if GONE)");
        busy();
        for (int heat : new int[] {0, 10, -1, LOW, HIGH}) {
            refused(-1, "spark", 12, heat, 5);
        }
        again();
        due(0, "spark", 12, 1, 5);
        due(1, "spark", 13, 9, 5);
        due(1, "of", 0, 1);
        due(9, "of", 1, 1);
        rule("goes 0;burns 0-1;burns 1 if spark=1");
        due(1, "pass");
        due(0, "of", 0, 1);
        due(NONE, "of", 0, 0);
        due(9, "of", 1, 1);

        edge("I: 2, 31", "a NAME 0 .. 99 (its two digits)");
        busy();
        for (int name : new int[] {-1, 100, LOW, HIGH}) {
            refused(-1, "spark", 12, 5, name);
        }
        again();
        int[] names = {0, 99, 9, 90};
        for (int k = 0; k < 4; k++) {
            due(k, "spark", 12, 5, names[k]);
            due(names[k], "of", k, 2);
        }
        // 00 and 09, 00 and 90, 99 and 09, 99 and 90; 09 and 90 have none at the same place
        due(4, "alike", NONE);
        due(2, "alike", 0);
        due(3, "alike", 1);
        due(12, "alike", 2);
        due(13, "alike", 3);
    }

    private static void peopleNumbers() {
        edge("I: 4, 42", "PEOPLE 0 .. 4 (5 at most)");
        due(0, "count", 2);
        for (int p = 0; p < 5; p++) {
            idle(NONE, "at", p, 0);
            due(p, "person", p + 1, p);
            due(p + 1, "at", p, 0);
            due(p + 1, "count", 2);
        }
        refused(-5, "person", 12, 5);
        idle(NONE, "at", 5, 0);

        edge("I: 4, 5, 19", ": a CELL, REACH 0 .. 8");
        busy();
        for (int reach : new int[] {-1, 9, LOW, HIGH}) {
            refused(-1, "person", 12, reach);
        }
        again();
        sparks(23, 24);
        due(0, "person", 24, 0);
        due(1, "person", 0, 8);
        due(0, "at", 0, 1);
        due(8, "at", 1, 1);
        go("knows", 0, 3);
        go("knows", 1, 3);
        refused(-3, "call", 0, 0);
        due(0, "call", 1, 0);
        due(8, "call", 1, 1);

        edge("I: 6, 7, 29", "KNOWS: SPARKS, as bits (told; those that are not there yet, too)");
        due(0, "person", 12, 8);
        due(0, "at", 0, 2);
        due(0, "knows", 0, 63);
        due(63, "at", 0, 2);
        due(0, "count", 0);
        due(0, "spark", 12, 5, 5);
        due(1, "of", 0, 5);
        due(1, "asks", 0, 0, 2);
        due(63, "knows", 0, 32);
        due(0, "of", 0, 5);
        for (int k = 1; k < 6; k++) {
            due(k, "spark", 12, 5, 5);
        }
        due(0, "of", 4, 5);
        due(1, "of", 5, 5);
        refused(-1, "knows", 0, 64);
        refused(-1, "knows", 0, -1);

        edge("I: 27, 42", "ANSWERS, 6 at most: a spark nobody knows answered one of the PEOPLE (1) or not (0)");
        busy();
        refused(-1, "answer", 0, -1);
        refused(-1, "answer", 0, 2);
        for (int n = 2; n <= 6; n++) {
            due(n, "answer", n % 2, n / 2 % 2);
            due(n, "count", 3);
        }
        refused(-5, "answer", 0, 0);
        refused(-5, "answer", 1, 1);
    }

    private static void termNumbers() {
        edge("I: 9, 42", "TERMS: 0 MINUTE 0 .. 999 (0 at first), 1 WIND 0 .. 2 (1), 2 MOOD 0 .. 9 "
                + "(0), 3 HOME 0 .. 24.");
        int[] first = {0, 1, 0, 0};
        int[] most = {999, 2, 9, 24};
        for (int what = 0; what <= 3; what++) {
            due(first[what], "count", 13 + what);
            due(first[what], "terms", what, most[what]);
            due(most[what], "count", 13 + what);
            due(most[what], "terms", what, 0);
            due(0, "count", 13 + what);
        }
        again();
        busy();
        for (int what = 0; what <= 3; what++) {
            refused(-1, "terms", what, -1);
            refused(-1, "terms", what, most[what] + 1);
            refused(-1, "terms", what, LOW);
            refused(-1, "terms", what, HIGH);
        }
        refused(-1, "terms", -1, 0);
        refused(-1, "terms", 4, 0);
    }

    private static void reasons() {
        edge("I: 43", "REFUSED by: -1 a number that can't be; -2 there is no such SPARK, PERSON, LAW, IMAGE; "
                + "-3 it can't be by what stands; -5 no room; -6 a TEXT, a ROW that can't be.");
        busy();
        refused(-1, "wet", 25);
        refused(-2, "call", 2, 0);
        refused(-2, "call", 0, 2);
        refused(-2, "force", 1);
        refused(-2, "back", 1);
        refused(-3, "wet", 3);
        for (int k = 2; k < 6; k++) {
            go("spark", 12, 5, 5);
        }
        refused(-5, "spark", 12, 5, 5);
        noLaw(0, "no");
        noOrders(0, "no");
        refused(-6, "row");
    }

    private static void firstReason() {
        edge("I: 2, 4, 6, 21, 27, 38, 41", "The first of these in that order.");
        busy();
        refused(-1, "spark", 3, 0, 0);
        refused(-1, "person", 3, 9);
        refused(-1, "knows", 2, 64);
        refused(-1, "walk", 2, 0);
        refused(-1, "answer", 2, 2);
        refused(-1, "back", 2);
        // PERSON 1 in CELL 19: at the right edge
        refused(-2, "walk", 2, 2);
        refused(-3, "walk", 1, 2);
        for (int k = 2; k < 6; k++) {
            go("spark", 12, 5, 5);
        }
        for (int p = 2; p < 5; p++) {
            go("person", 12, 5);
        }
        for (int n = 2; n <= 6; n++) {
            go("answer", 0, 0);
        }
        refused(-1, "spark", 3, 10, 5);
        refused(-3, "spark", 3, 5, 5);
        refused(-5, "spark", 2, 5, 5);
        refused(-1, "person", 25, 5);
        refused(-3, "person", 3, 5);
        refused(-5, "person", 2, 5);
        refused(-1, "answer", 5, 2);
        refused(-2, "answer", 5, 1);
        refused(-5, "answer", 4, 1);
        again();
        refused(-1, "nights", -1, 1);
        refused(-1, "nights", 1, 0);
        refused(-3, "nights", 1, 1);
        for (int i = 0; i < 6; i++) {
            law(i, "bars");
        }
        tape("no");
        refusedText(-5, NONE, NONE, "law");
    }

    /** The next of the numbers that DRAWS are made of. */
    private static long next(long s) {
        return (s * 1103 + 12345) % 1000003;
    }

    /** The lowest SEED whose first three DRAWS are these, of so many SPARKS and PEOPLE. */
    private static int seedFor(int sparks, int spark, int people, int person, int deed) {
        for (int seed = 0; seed <= 1000000; seed++) {
            long a = next(seed);
            long b = next(a);
            if (a % sparks == spark && b % people == person && next(b) % 3 == deed) {
                return seed;
            }
        }
        fail("no SEED draws so");
        return 0;
    }

    private static void seeds() {
        edge("IV: 38", "NIGHTS with a SEED, n 1 .. 60, on paper: s is the SEED (0 .. 1,000,000);");
        busy();
        for (int seed : new int[] {-1, 1000001, LOW, HIGH}) {
            refused(-1, "nights", seed, 1);
        }
        for (int n : new int[] {0, 61, -1, LOW, HIGH}) {
            refused(-1, "nights", 5, n);
        }
        again();
        sparks(12);
        due(0, "person", 0, 0);
        go("terms", 3, 24);
        for (int seed : new int[] {0, 1000000}) {
            for (int n : new int[] {1, 60}) {
                due(0, "nights", seed, n);
                due(0, "status");
            }
        }
        // on paper
        due(12, "of", 0, 0);
        due(0, "at", 0, 0);
        due(0, "count", 13);
        due(0, "count", 5);
    }

    private static void draws() {
        edge("IV: 38", "a DRAW of m: s becomes (s times 1103 and 12345) modulo 1,000,003, it is s modulo m.");
        // 0: 12,345, 628,841, 621,889, which is 1 modulo 3: the PERSON WALKS up
        sparks(12);
        people(0);
        go("terms", 3, 24);
        due(0, "nights", 0, 1);
        due(5, "drawn", 0, 2);
        // 1,000,000: 9,036 (1,103,012,345 goes round), 979,026, 874,786: again 1 modulo 3
        due(0, "nights", 1000000, 1);
        due(5, "drawn", 0, 2);
        // the highest numbers of six SPARKS and five PEOPLE
        again();
        sparks(6, 6, 6, 6, 6, 6);
        people(12, 12, 12, 12, 12);
        rule("goes 0");
        for (int k = 0; k < 6; k++) {
            for (int p = 0; p < 5; p += 2) {
                due(1, "nights", seedFor(6, k, 5, p, 0), 1);
                for (int other = 0; other < 6; other++) {
                    due(other == k ? 12 : 6, "drawn", other, 0);
                }
            }
        }
    }

    private static void nightDeeds() {
        edge("IV: 38, 39", "DRAWS of SPARKS, of PEOPLE, of 3: at 0 that PERSON CALLS that SPARK, if it can be, at 1 it "
                + "WALKS the WAY that is the SPARK's number modulo 4 and 1, if it can be, at 2 nothing; "
                + "then the MINUTE passes.");
        sparks(24, 24, 24, 24, 24, 24);
        people(12, 0, 24);
        rule("goes 0;burns 1");
        // the number goes round: SPARKS 0 and 4 up, 1 and 5 right, 2 down, 3 left
        int[] to = {17, 13, 7, 11, 17, 13};
        for (int k = 0; k < 6; k++) {
            due(0, "nights", seedFor(6, k, 3, 0, 1), 1);
            due(to[k], "drawn", 0, 2);
            due(0, "drawn", 1, 2);
            due(24, "drawn", 2, 2);
            due(24, "drawn", k, 0);
            due(6, "drawn", k, 1);
        }
        // beyond the edge it can't be
        due(0, "nights", seedFor(6, 2, 3, 1, 1), 1);
        due(0, "drawn", 1, 2);
        due(0, "nights", seedFor(6, 0, 3, 2, 1), 1);
        due(24, "drawn", 2, 2);
        // CALLED to HOME, and elsewhere
        due(1, "nights", seedFor(6, 5, 3, 1, 0), 1);
        due(NONE, "drawn", 5, 0);
        due(0, "drawn", 5, 1);
        due(1, "nights", seedFor(6, 5, 3, 0, 0), 1);
        due(12, "drawn", 5, 0);
        due(6, "drawn", 5, 1);
        // a CALL that can't be is none
        go("knows", 0, 0);
        due(0, "nights", seedFor(6, 5, 3, 0, 0), 1);
        due(24, "drawn", 5, 0);
        due(6, "drawn", 5, 1);
        // nothing, but for the MINUTE
        due(0, "nights", seedFor(6, 5, 3, 0, 2), 1);
        due(12, "drawn", 0, 2);
        due(24, "drawn", 5, 0);
        due(6, "drawn", 5, 1);
        // to a wall it can't be
        row(1, 0, 17, 3);
        due(0, "nights", seedFor(6, 0, 3, 0, 1), 1);
        due(12, "drawn", 0, 2);
    }

    private static void nightEnds() {
        edge("IV: 38", "Each time (at MINUTE 999 it ends)");
        sparks(24);
        people(12);
        go("knows", 0, 0);
        rule("goes 0;burns 0-1");
        int[] left = {5, 4, 3, 2};
        for (int ahead = 0; ahead < 4; ahead++) {
            go("terms", 0, 999 - ahead);
            due(0, "nights", 3, 60);
            due(left[ahead], "drawn", 0, 1);
        }
        // at MINUTE 999 not even a CALL
        go("knows", 0, 1);
        go("terms", 0, 999);
        int call = seedFor(1, 0, 1, 0, 0);
        due(0, "nights", call, 1);
        due(24, "drawn", 0, 0);
        go("terms", 0, 998);
        due(1, "nights", call, 60);
        due(12, "drawn", 0, 0);
    }

    private static void rowsAndAsh() {
        edge("IV: 12, 13", "A ROW: the TAPE's bytes by twos: a CELL, a KIND;");
        row(3, 0, 0, 1, 24, 3, 12, 2);
        due(1, "floor", 0);
        due(3, "floor", 24);
        due(2, "floor", 12);
        // as many as the TAPE holds
        again();
        int[] all = new int[400];
        for (int i = 0; i < 200; i++) {
            all[2 * i] = i % 25;
            all[2 * i + 1] = i / 25 % 4;
        }
        row(200, 0, all);
        for (int cell = 0; cell < 25; cell++) {
            due(3, "floor", cell);
        }

        edge("IV: 12, 13", "one that can't be, one within which the TAPE ends is ASH: nothing.");
        row(2, 4, 25, 0, 24, 4, 255, 1, 24, 2, 0, 3, 7);
        due(2, "floor", 24);
        due(3, "floor", 0);
        due(0, "floor", 7);
        row(0, 1, 7);
        row(0, 1, 25);
        row(0, 1, 0, 4);
        row(1, 0, 0, 3);
    }

    private static void imagesKeep() {
        edge("IV: 40, 41", "IMAGES 0, 1 keep all but the TAPE, FAULT, ASH, where ORDERS stopped, "
                + "what can be undone (nothing, behind back()), the latest NIGHTS;");
        sparks(12);
        people(11);
        due(0, "image", 0);
        row(0, 2, 99, 99, 99);
        due(0, "nights", 0, 1);
        due(16, "drawn", 0, 2);
        due(0, "wet", 5);
        tape("pass;wet 5");
        due(-3, "orders");
        tape("bars if");
        due(-6, "law");
        tape("bars");
        due(1, "count", 5);
        due(0, "back", 0);
        due(4, "count", 6);
        due(7, "fault");
        due(2, "ash");
        due(1, "stopped");
        due(16, "drawn", 0, 2);
        due(0, "count", 5);
        refused(-3, "undo");
        due(0, "law");

        edge("IV: 41", "BACK to one all that it keeps is as it was then (IMAGES stay).");
        busy();
        go("terms", 1, 2);
        due(0, "image", 1);
        for (int i = 0; i < 2; i++) {
            due(0, "back", 0);
            due(0, "count", 13);
            due(1, "count", 14);
            due(9, "of", 1, 1);
            due(24, "at", 1, 0);
            due(0, "floor", 20);
            due(0, "back", 1);
            due(1, "count", 13);
            due(2, "count", 14);
            due(8, "of", 1, 1);
            due(19, "at", 1, 0);
            due(1, "floor", 20);
            go("spark", 12, 5, 5);
            go("person", 12, 5);
            go("knows", 0, 63);
            go("answer", 0, 1);
            law(1, "bars");
            go("force", 1);
            row(1, 0, 9, 3);
            due(3, "count", 0);
            due(3, "count", 2);
            due(2, "count", 3);
            due(2, "count", 4);
            due(0, "back", 1);
            due(2, "count", 0);
            due(2, "count", 2);
            due(1, "at", 0, 2);
            due(1, "count", 3);
            due(1, "count", 4);
            due(0, "count", 12);
            due(0, "floor", 9);
        }
    }

    /** Two rooms that have nothing in common: a SPARK, a PERSON and all else differ by what is added to them. */
    private static void otherRoom(int more) {
        due(0, "spark", 12 + more, 5 + more, 34 + more);
        due(0, "person", 17 + more, 6 + more);
        due(0, "knows", 0, 1 + 2 * more);
        due(1, "person", 2, 8);
        due(1, "answer", more, more);
        row(1, 0, 12 + more, 1 + more);
        law(0, "goes " + (2 + more) + ";burns " + (1 + more));
        if (more == 1) {
            go("force", 0);
            due(1, "spark", 3, 3, 3);
            due(2, "answer", 0, 1);
        }
        for (int what = 0; what <= 3; what++) {
            go("terms", what, 1 + more);
        }
    }

    private static void dueOtherRoom(int more) {
        int[] spark = {12 + more, 5 + more, 34 + more, more == 0 ? 1 : 3, more == 0 ? -3 : 2, 1};
        for (int what = 0; what <= 5; what++) {
            due(spark[what], "of", 0, what);
        }
        due(17 + more, "at", 0, 0);
        due(6 + more, "at", 0, 1);
        due(1 + 2 * more, "at", 0, 2);
        due(1 + more, "floor", 12 + more);
        due(0, "floor", 13 - more);
        int[] counts = {1 + more, 1 + more, 2, 1 + more, 1};
        for (int what = 0; what < counts.length; what++) {
            due(counts[what], "count", what);
        }
        due(more == 0 ? NONE : 0, "count", 12);
        for (int what = 0; what <= 3; what++) {
            due(1 + more, "count", 13 + what);
        }
        // PERSON 0, who KNOWS SPARK 0, was not ANSWERED; or both were, of whom PERSON 1 KNOWS none
        due(0, "which");
    }

    private static void imagesOfTwoRooms() {
        edge("IV: 40, 41", "BACK to one all that it keeps is as it was then");
        due(0, "image", 0);
        otherRoom(0);
        due(0, "image", 1);
        due(0, "back", 0);
        otherRoom(1);
        due(0, "image", 0);
        for (int i = 0; i < 2; i++) {
            dueOtherRoom(1);
            due(0, "back", 1);
            dueOtherRoom(0);
            due(0, "back", 0);
        }
        // who was asked, and whether it ANSWERED
        again();
        sparks(12, 13);
        people(0, 1);
        go("knows", 0, 1);
        go("knows", 1, 2);
        due(1, "answer", 0, 1);
        due(1, "which");
        due(0, "image", 0);
        go("forget");
        due(1, "answer", 1, 1);
        due(2, "which");
        due(0, "image", 1);
        due(0, "back", 0);
        due(1, "which");
        go("forget");
        due(1, "answer", 0, 0);
        due(2, "which");
        due(0, "back", 0);
        due(1, "which");
        due(0, "back", 1);
        due(2, "which");
    }

    private static void constants() {
        edge("constants: 3, 18", "The constants: `NONE = -1`: There is none; GONE.");
        if (NamedSparks.NONE != -1) {
            fail("NONE is " + NamedSparks.NONE);
        }
        due(NamedSparks.NONE, "count", 12);
        due(NamedSparks.NONE, "fault");
        sparks(12);
        people(0);
        due(4, "call", 0, 0);
        due(NamedSparks.NONE, "of", 0, 0);

        edge("constants: 3, 24, 39", "`NOTHING = -100`: What is not there, where it could be below 0.");
        if (NamedSparks.NOTHING != -100) {
            fail("NOTHING is " + NamedSparks.NOTHING);
        }
        idle(NamedSparks.NOTHING, "of", 0, 0);
        idle(NamedSparks.NOTHING, "where", 0, 0);
        idle(NamedSparks.NOTHING, "drawn", 0, 0);
    }
}
