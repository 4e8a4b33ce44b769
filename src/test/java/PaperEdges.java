/** Terms III: what is on paper. */
final class PaperEdges extends Edges {
    private static final long WHOLE = 1000000000000L;

    private PaperEdges() {
    }

    static void run() {
        whereLater();
        firstThere();
        chains();
        chainOfFive();
        whichItIs();
        letCall();
        alikeNames();
        anewNames();
        guards();
        lessons();
        drifts();
        driftCuts();
        soddenCells();
        heatLater();
    }

    private static void whereLater() {
        edge("III: 24", "(On paper:) WHERE a SPARK is n MINUTES on, nothing else being done (beyond MINUTE 999, too).");
        busy();
        idle(12, "where", 0, 0);
        // right to CELL 13, behind it x = 4 is barred; burnt down there by 1 each MINUTE
        idle(13, "where", 0, 1);
        idle(13, "where", 0, 4);
        idle(NONE, "where", 0, 5);
        idle(NONE, "where", 0, 60);
        again();
        sparks(12);
        go("terms", 0, 999);
        rule("goes 0;goes 1 if minute=999;goes 2 if minute=1000;goes 4 if minute=1000+58");
        idle(12, "where", 0, 0);
        idle(17, "where", 0, 1);
        idle(18, "where", 0, 2);
        idle(18, "where", 0, 59);
        idle(17, "where", 0, 60);
        due(999, "count", 13);
    }

    private static void firstThere() {
        edge("III: 25", "FIRST on a CELL: in how many MINUTES 0 .. 60 any SPARK is there.");
        sparks(12, 20);
        rule("goes 0;goes 1 if minute=59;goes 2 if minute=60");
        idle(0, "first", 12, 0);
        idle(60, "first", 17, 0);
        idle(NONE, "first", 18, 0);
        idle(NONE, "first", 18, 1);
        idle(NONE, "first", 13, 0);
        go("terms", 0, 1);
        idle(59, "first", 17, 0);
        idle(60, "first", 18, 0);
        // beyond MINUTE 999
        go("terms", 0, 999);
        rule("goes 0;goes 1 if minute=1000+58;goes 2 if minute=1000+59");
        idle(60, "first", 17, 0);
        idle(NONE, "first", 18, 0);
    }

    private static void chains() {
        edge("III: 26", "A CHAIN for a SPARK: the fewest CALLS, one behind the other");
        // by 0 alone, by 1 and 0, by 2, 1 and 0
        sparks(24);
        people(0, 2, 4);
        due(1, "chain", 0, NONE);
        due(0, "chain", 0, 0);
        again();
        sparks(24);
        int[] cells = {0, 2, 4};
        int[] reach = {2, 2, 4};
        for (int p = 0; p < 3; p++) {
            go("person", cells[p], reach[p]);
            go("knows", p, 1);
        }
        idle(3, "chain", 0, NONE);
        idle(2, "chain", 0, 0);
        idle(1, "chain", 0, 1);
        idle(0, "chain", 0, 2);
        idle(NONE, "chain", 0, 3);
        // any of them can be the last, any can be between
        again();
        sparks(24);
        for (int p = 2; p >= 0; p--) {
            go("person", cells[p], reach[p]);
            go("knows", 2 - p, 1);
        }
        idle(3, "chain", 0, NONE);
        for (int i = 0; i < 3; i++) {
            idle(i, "chain", 0, i);
        }
        // with nobody, with none
        again();
        idle(NONE, "chain", 0, NONE);
        sparks(24);
        idle(NONE, "chain", 0, NONE);
        people(1);
        idle(NONE, "chain", 0, NONE);

        edge("III: 26", "(nobody walking, no MINUTE passing; SHUNNED as now but for x, y, kind, far "
                + "of where it is then)");
        String[] tests = {"x=2", "y=1", "kind=2", "far=3", "x=4", "heat=4", "minute=1", "mood=1", "name=1", "spark=1"};
        int[] calls = {NONE, NONE, NONE, NONE, 2, 2, 2, 2, 2, 2};
        for (int i = 0; i < tests.length; i++) {
            again();
            sparks(24);
            go("person", 0, 3);
            go("person", 7, 8);
            go("knows", 0, 1);
            go("knows", 1, 1);
            row(1, 0, 7, 2);
            rule("shuns if person=0 and " + tests[i]);
            idle(calls[i], "chain", 0, NONE);
        }
        again();
        sparks(24);
        go("person", 0, 3);
        go("person", 7, 8);
        go("knows", 0, 1);
        go("knows", 1, 1);
        rule("shuns if person=0 and heat=5 and minute=3 and mood=2 and name=0 and spark=0");
        due(2, "chain", 0, NONE);
        go("terms", 0, 3);
        go("terms", 2, 2);
        due(NONE, "chain", 0, NONE);

        edge("III: 26", "by which it comes HOME; the first as a row of PEOPLE.");
        // two ways of two CALLS: 1 and 3, 2 and 0; the first is the lower row
        sparks(24);
        int[] in = {0, 6, 1, 0};
        int[] far = {1, 8, 8, 2};
        for (int p = 0; p < 4; p++) {
            go("person", in[p], far[p]);
            go("knows", p, 1);
        }
        idle(2, "chain", 0, NONE);
        idle(1, "chain", 0, 0);
        idle(3, "chain", 0, 1);
        go("knows", 1, 0);
        idle(2, "chain", 0, 0);
        idle(0, "chain", 0, 1);
        // in HOME's CELL it is not yet HOME
        again();
        sparks(0);
        idle(NONE, "chain", 0, NONE);
        people(12, 0);
        idle(1, "chain", 0, NONE);
        idle(1, "chain", 0, 0);
    }

    private static void chainOfFive() {
        edge("III: 26", "the fewest CALLS, one behind the other");
        sparks(24);
        int[] cells = {3, 4, 9, 14, 19};
        for (int p = 0; p < 5; p++) {
            go("person", cells[p], 1);
            go("knows", p, 1);
        }
        go("terms", 3, 3);
        idle(5, "chain", 0, NONE);
        for (int i = 0; i < 5; i++) {
            idle(4 - i, "chain", 0, i);
        }
        idle(NONE, "chain", 0, 5);
        go("knows", 2, 0);
        idle(NONE, "chain", 0, NONE);
        idle(NONE, "chain", 0, 0);
    }

    private static void whichItIs() {
        edge("III: 29", "WHICH: SPARKS, GONE ones too, that those whom it ANSWERED KNOW and the others do not.");
        idle(0, "which");
        sparks(1, 2, 3, 4, 6, 7);
        idle(63, "which");
        people(0, 0, 0);
        go("knows", 0, 7);
        go("knows", 1, 14);
        go("knows", 2, 0);
        go("answer", 0, 1);
        idle(7, "which");
        go("answer", 1, 0);
        idle(1, "which");
        due(1, "call", 0, 0);
        due(NONE, "of", 0, 0);
        idle(1, "which");
        go("answer", 2, 0);
        idle(1, "which");
        go("answer", 2, 1);
        idle(0, "which");
        // what they KNOW now
        go("forget");
        go("answer", 2, 1);
        idle(0, "which");
        go("knows", 2, 40);
        idle(40, "which");
        // both of one PERSON can't be
        go("answer", 2, 0);
        idle(0, "which");
    }

    private static void letCall() {
        edge("III: 30", "To LET CALL: the PERSON by whom of these the more (known, not known) are as few as can be; "
                + "the lowest.");
        idle(NONE, "let", 0);
        idle(NONE, "let", 1);
        sparks(1, 2, 3, 4, 6, 7);
        idle(NONE, "let", 0);
        people(0, 0, 0, 0, 0);
        int[] known = {0, 63, 15, 7, 56};
        int[] best = {0, 0, 2, 3, 3};
        int[] left = {6, 6, 4, 3, 3};
        for (int p = 0; p < 5; p++) {
            go("knows", p, 0);
        }
        for (int p = 0; p < 5; p++) {
            go("knows", p, known[p]);
            idle(best[p], "let", 0);
            idle(left[p], "let", 1);
        }
        // of these alone: SPARKS 0 .. 2, then none
        go("answer", 3, 1);
        idle(0, "let", 0);
        idle(3, "let", 1);
        go("knows", 4, 59);
        idle(4, "let", 0);
        idle(2, "let", 1);
        go("answer", 3, 0);
        idle(NONE, "let", 0);
        idle(NONE, "let", 1);
    }

    private static void alikeNames() {
        edge("III: 31", "ALIKE: twos of SPARKS whose NAMES have a digit in common at the same place.");
        idle(0, "alike", NONE);
        int[] names = {12, 21, 13, 32, 90, 9};
        for (int k = 0; k < 6; k++) {
            go("spark", 12, 5, names[k]);
            idle(k < 2 ? 0 : k == 2 ? 1 : 2, "alike", NONE);
        }
        // 12 and 13 the first digit, 12 and 32 the second; 12 and 21, 90 and 09 none
        idle(2, "alike", 0);
        idle(3, "alike", 1);
        idle(NONE, "alike", 2);
        again();
        for (int k = 0; k < 6; k++) {
            go("spark", 12, 5, 7);
        }
        idle(15, "alike", NONE);
        idle(1, "alike", 0);
        idle(45, "alike", 14);
        idle(NONE, "alike", 15);
    }

    private static void anewNames() {
        edge("III: 32", "ANEW: the fewest SPARKS to be named anew, so that no two of the others are ALIKE; "
                + "the lowest as bits.");
        idle(0, "anew", 0);
        idle(0, "anew", 1);
        int[] names = {12, 13, 43, 45, 95, 98};
        // a row of which each is ALIKE to the next
        int[] count = {0, 1, 1, 2, 2, 3};
        int[] bits = {0, 1, 2, 5, 10, 21};
        for (int k = 0; k < 6; k++) {
            go("spark", 12, 5, names[k]);
            idle(count[k], "anew", 0);
            idle(bits[k], "anew", 1);
        }
        again();
        for (int k = 0; k < 6; k++) {
            go("spark", 12, 5, 7);
        }
        idle(5, "anew", 0);
        idle(31, "anew", 1);
    }

    private static void guards() {
        edge("III: 33", "A GUARD though any k 0 .. 4 of it be away: the fewest PEOPLE of whom each "
                + "SPARK that is not GONE "
                + "is KNOWN to k and 1 or more; the lowest as bits.");
        for (int k = 0; k <= 4; k++) {
            idle(0, "guard", k, 0);
            idle(0, "guard", k, 1);
        }
        idle(NONE, "guard", -1, 0);
        idle(NONE, "guard", 5, 0);
        sparks(12);
        idle(NONE, "guard", 0, 0);
        people(0, 0, 0, 0, 0);
        for (int k = 0; k <= 4; k++) {
            idle(k + 1, "guard", k, 0);
            idle((1 << k + 1) - 1, "guard", k, 1);
        }
        go("knows", 0, 0);
        idle(4, "guard", 3, 0);
        idle(30, "guard", 3, 1);
        idle(NONE, "guard", 4, 0);
        idle(NONE, "guard", 4, 1);
        // GONE ones need nobody
        due(4, "call", 0, 4);
        idle(0, "guard", 4, 0);
        idle(0, "guard", 4, 1);
        // the fewest, though higher; the lowest of those as few
        again();
        sparks(6, 7, 8);
        people(0, 0, 0, 0, 0);
        int[] known = {1, 2, 4, 3, 6};
        for (int p = 0; p < 5; p++) {
            go("knows", p, known[p]);
        }
        idle(2, "guard", 0, 0);
        idle(4 + 8, "guard", 0, 1);
        idle(4, "guard", 1, 0);
        idle(1 + 4 + 8 + 16, "guard", 1, 1);
        idle(NONE, "guard", 2, 0);
    }

    private static void lessons() {
        edge("III: 34", "LESSONS: the fewest so that each SPARK is KNOWN to k PEOPLE 0 .. 5 or more "
                + "(to one PERSON of one SPARK each).");
        idle(0, "lessons", 0);
        for (int k = 1; k <= 5; k++) {
            idle(NONE, "lessons", k);
        }
        sparks(1, 2, 3);
        for (int p = 0; p < 5; p++) {
            idle(NONE, "lessons", p + 1);
            due(p, "person", 0, 8);
            idle(3 * (p + 1), "lessons", p + 1);
        }
        idle(NONE, "lessons", 6);
        idle(NONE, "lessons", -1);
        go("knows", 0, 7);
        go("knows", 1, 3 + 32);
        go("knows", 2, 1);
        // KNOWN to 3, 2, 1
        int[] due = {0, 0, 1, 3, 6, 9};
        for (int k = 0; k <= 5; k++) {
            idle(due[k], "lessons", k);
        }
        // GONE ones, too
        due(1, "call", 0, 0);
        idle(9, "lessons", 5);
    }

    private static void drifts() {
        edge("III: 35", "DRIFT: the chance, of 1,000,000,000,000 parts, that a SPARK is in a CELL n MINUTES on, "
                + "if it went by wind alone:");
        sparks(12, 1);
        people(0);
        rule("goes 1");
        idle(WHOLE, "drift", 0, 0, 12);
        idle(0, "drift", 0, 0, 13);
        // no LAW, no deed is asked, the chances are one whole
        for (int n : new int[] {0, 1, 60}) {
            long whole = 0;
            for (int cell = 0; cell < 25; cell++) {
                whole += go("drift", 0, n, cell);
            }
            if (whole != WHOLE) {
                fail("the parts of " + n + " MINUTES are " + whole + " together");
            }
        }
        due(1, "call", 1, 0);
        idle(NONE, "drift", 1, 0, 0);

        edge("III: 35", "each MINUTE by WIND of ten each WAY 1 .. 4 (to a wall, beyond the edge: it "
                + "stays), else it stays:");
        for (int wind = 0; wind <= 2; wind++) {
            again();
            sparks(12, 0, 2);
            row(2, 0, 17, 3, 1, 3);
            go("terms", 1, wind);
            long part = WHOLE / 10 * wind;
            idle(WHOLE - 3 * part, "drift", 0, 1, 12);
            idle(0, "drift", 0, 1, 17);
            idle(part, "drift", 0, 1, 13);
            idle(part, "drift", 0, 1, 7);
            idle(part, "drift", 0, 1, 11);
            idle(0, "drift", 0, 1, 18);
            // in the corner, beside a wall
            idle(WHOLE - part, "drift", 1, 1, 0);
            idle(0, "drift", 1, 1, 1);
            idle(part, "drift", 1, 1, 5);
            idle(WHOLE - 2 * part, "drift", 2, 1, 2);
            idle(part, "drift", 2, 1, 3);
            idle(part, "drift", 2, 1, 7);
        }
        // out of a wall
        again();
        sparks(12);
        row(1, 0, 12, 3);
        idle(WHOLE / 10 * 6, "drift", 0, 1, 12);
        idle(WHOLE / 10, "drift", 0, 1, 13);
        idle(WHOLE / 100 * 36, "drift", 0, 2, 12);
    }

    private static void driftCuts() {
        edge("III: 35", "CELL by CELL, each part times WIND by ten, cut, goes each WAY, what is left stays.");
        // two CELLS between walls: what goes from one to the other is cut each time
        for (int wind = 1; wind <= 2; wind++) {
            again();
            sparks(0);
            row(3, 0, 2, 3, 5, 3, 6, 3);
            go("terms", 1, wind);
            long here = WHOLE;
            long there = 0;
            for (int n = 0; n <= 60; n++) {
                due(here, "drift", 0, n, 0);
                due(there, "drift", 0, n, 1);
                long out = here * wind / 10;
                long in = there * wind / 10;
                here += in - out;
                there += out - in;
            }
        }
    }

    private static void soddenCells() {
        edge("III: 36", "SODDEN: the CELL at which DRIFT of a SPARK is greatest; the lowest.");
        sparks(12, 24);
        idle(12, "sodden", 0, 0);
        idle(24, "sodden", 1, 0);
        // by WIND 2 five CELLS are as likely
        go("terms", 1, 2);
        idle(7, "sodden", 0, 1);
        go("terms", 1, 0);
        idle(12, "sodden", 0, 60);
        // from a wall into a blind alley it can only go on
        again();
        sparks(0);
        row(4, 0, 0, 3, 5, 3, 6, 3, 2, 3);
        idle(0, "sodden", 0, 6);
        idle(1, "sodden", 0, 7);
        idle(1, "sodden", 0, 60);
    }

    private static void heatLater() {
        edge("III: 37", "HOT: HEAT of all SPARKS together n MINUTES 0 .. 60 on by a LAW in place of that in FORCE "
                + "(NONE: none).");
        idle(0, "hot", NONE, 0);
        idle(0, "hot", NONE, 60);
        sparks(12, 12, 12, 12, 12, 12);
        rule("goes 0;burns 1");
        law(1, "goes 0;burns 0-1;burns 0 if minute<59");
        law(2, "goes 0;burns 0-1 if minute>1000");
        idle(30, "hot", NONE, 60);
        idle(30, "hot", 0, 0);
        idle(36, "hot", 0, 1);
        idle(54, "hot", 0, 4);
        idle(54, "hot", 0, 60);
        idle(30, "hot", 1, 59);
        idle(24, "hot", 1, 60);
        idle(NONE, "hot", 1, 61);
        idle(NONE, "hot", 1, -1);
        idle(NONE, "hot", 3, 0);
        idle(NONE, "hot", -2, 0);
        // beyond MINUTE 999
        go("terms", 0, 999);
        idle(30, "hot", 2, 2);
        idle(24, "hot", 2, 3);
        idle(0, "hot", 2, 7);
        due(0, "count", 12);
    }
}
