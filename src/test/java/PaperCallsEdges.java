/** Promises 24 to 39: what is asked on paper. */
final class PaperCallsEdges extends Edges {
    private PaperCallsEdges() {
    }

    static void run() {
        whereCalls();
        firstCalls();
        chainCalls();
        answerCalls();
        forgetCalls();
        whichAndLetCalls();
        alikeCalls();
        anewCalls();
        guardCalls();
        lessonsCalls();
        driftCalls();
        soddenCalls();
        hotCalls();
        nightsCalls();
        drawnCalls();
    }

    private static void whereCalls() {
        edge("24", "WHERE n MINUTES 0 .. 60 on: the CELL (NONE: GONE).");
        sparks(12, 1);
        people(0);
        rule("goes 0;goes 1 if minute=59 and spark=0");
        idle(12, "where", 0, 0);
        idle(12, "where", 0, 59);
        idle(17, "where", 0, 60);
        due(1, "call", 1, 0);
        idle(NONE, "where", 1, 0);
        idle(NONE, "where", 1, 60);
        rule("goes 0;burns 0-1 if minute>54");
        idle(12, "where", 0, 59);
        idle(NONE, "where", 0, 60);

        edge("24", "NOTHING.");
        idle(NOTHING, "where", 0, 0);
        busy();
        idle(NOTHING, "where", 0, -1);
        idle(NOTHING, "where", 0, 61);
        idle(NOTHING, "where", 0, LOW);
        idle(NOTHING, "where", 0, HIGH);
        idle(NOTHING, "where", -1, 0);
        idle(NOTHING, "where", 2, 0);
        idle(NOTHING, "where", LOW, 0);
        idle(NOTHING, "where", HIGH, 60);
    }

    private static void firstCalls() {
        edge("25", "FIRST on a CELL: in how many MINUTES (what 0), which SPARK, the lowest (1).");
        sparks(10, 12, 12);
        rule("goes 2");
        idle(0, "first", 12, 0);
        idle(1, "first", 12, 1);
        idle(1, "first", 13, 0);
        idle(1, "first", 13, 1);
        idle(1, "first", 11, 0);
        idle(0, "first", 11, 1);
        // later there are more, the first ones are told
        idle(2, "first", 14, 0);
        idle(1, "first", 14, 1);
        rule("goes 0;goes 2 if minute=59");
        idle(60, "first", 11, 0);
        idle(0, "first", 11, 1);

        edge("25", "NONE (not in 60).");
        idle(NONE, "first", 0, 0);
        idle(NONE, "first", 0, 1);
        busy();
        idle(NONE, "first", 24, 0);
        idle(NONE, "first", -1, 0);
        idle(NONE, "first", 25, 1);
        idle(NONE, "first", LOW, 0);
        idle(NONE, "first", HIGH, 0);
        idle(NONE, "first", 12, -1);
        idle(NONE, "first", 12, 2);
        idle(NONE, "first", 12, LOW);
        again();
        sparks(10);
        rule("goes 0;goes 2 if minute=60");
        idle(NONE, "first", 11, 0);
        idle(NONE, "first", 11, 1);
        // one that is GONE by then is not there
        rule("goes 2;burns 0-3");
        idle(1, "first", 11, 0);
        idle(NONE, "first", 12, 0);
    }

    private static void chainCalls() {
        edge("26", "A CHAIN: how many CALLS (i NONE), the PERSON of the i-th.");
        sparks(24, 1);
        due(0, "person", 0, 4);
        due(1, "person", 2, 8);
        go("knows", 0, 3);
        go("knows", 1, 3);
        idle(2, "chain", 0, NONE);
        idle(1, "chain", 0, 0);
        idle(0, "chain", 0, 1);
        idle(1, "chain", 1, NONE);
        idle(0, "chain", 1, 0);

        edge("26", "NONE (it can't come; GONE).");
        idle(NONE, "chain", 0, NONE);
        sparks(24, 1);
        idle(NONE, "chain", 0, NONE);
        due(0, "person", 0, 4);
        due(1, "person", 2, 8);
        idle(NONE, "chain", 0, NONE);
        idle(NONE, "chain", 0, 0);
        go("knows", 0, 3);
        idle(NONE, "chain", 0, NONE);
        idle(1, "chain", 1, NONE);
        idle(NONE, "chain", 1, 1);
        idle(NONE, "chain", 1, -2);
        idle(NONE, "chain", 1, LOW);
        idle(NONE, "chain", 1, HIGH);
        idle(NONE, "chain", -1, NONE);
        idle(NONE, "chain", 2, NONE);
        idle(NONE, "chain", HIGH, 0);
        due(1, "call", 1, 0);
        idle(NONE, "chain", 1, NONE);
        idle(NONE, "chain", 1, 0);
    }

    private static void answerCalls() {
        edge("27", "ANSWERS: how often there was.");
        people(0, 1);
        for (int n = 1; n <= 6; n++) {
            due(n, "answer", n % 2, n % 2);
            due(0, "status");
            due(n, "count", 3);
        }

        edge("27", "-1;");
        refused(-1, "answer", 0, 2);
        busy();
        refused(-1, "answer", 0, -1);
        refused(-1, "answer", 0, 2);
        refused(-1, "answer", 0, LOW);
        refused(-1, "answer", 0, HIGH);
        refused(-1, "answer", 9, 2);

        edge("27", "-2;");
        refused(-2, "answer", 0, 0);
        busy();
        for (int p : new int[] {-1, 2, 5, LOW, HIGH}) {
            refused(-2, "answer", p, 0);
            refused(-2, "answer", p, 1);
        }

        edge("27", "-5.");
        busy();
        for (int n = 2; n <= 6; n++) {
            due(n, "answer", 0, 0);
        }
        refused(-5, "answer", 0, 1);
        refused(-5, "answer", 1, 0);
        refused(-2, "answer", 2, 0);
        due(6, "forget");
        due(1, "answer", 0, 1);
    }

    private static void forgetCalls() {
        edge("28", "ANSWERS are nothing then: how often there was.");
        due(0, "forget");
        sparks(12, 13);
        people(0);
        go("knows", 0, 1);
        for (int n = 1; n <= 6; n++) {
            go("answer", 0, 1);
        }
        due(1, "which");
        due(6, "forget");
        due(3, "which");
        due(0, "count", 3);
        idle(0, "forget");
        // it is none of the calls that status() tells of, nor does it hinder undoing
        go("wet", 25);
        due(1, "pass");
        go("wet", 25);
        idle(0, "forget");
        due(-1, "status");
        due(1, "count", 5);
    }

    private static void whichAndLetCalls() {
        edge("29", "WHICH, as bits.");
        idle(0, "which");
        for (int k = 0; k < 6; k++) {
            go("spark", 12, 5, k);
            idle((2 << k) - 1, "which");
        }
        people(0);
        go("knows", 0, 32);
        go("answer", 0, 1);
        idle(32, "which");
        go("forget");
        go("answer", 0, 0);
        idle(31, "which");

        edge("30", "To LET CALL: the PERSON (what 0), how many SPARKS are left at most (1).");
        sparks(12, 13, 14);
        people(0, 0);
        idle(0, "let", 0);
        idle(3, "let", 1);
        go("knows", 1, 4);
        idle(1, "let", 0);
        idle(2, "let", 1);
        go("knows", 0, 3);
        idle(0, "let", 0);
        idle(2, "let", 1);
        // one alone is left
        go("answer", 1, 1);
        idle(0, "let", 0);
        idle(1, "let", 1);

        edge("30", "NONE (none, nobody).");
        idle(NONE, "let", 0);
        idle(NONE, "let", 1);
        people(0);
        idle(NONE, "let", 0);
        idle(NONE, "let", 1);
        again();
        sparks(12);
        idle(NONE, "let", 0);
        idle(NONE, "let", 1);
        people(0);
        idle(0, "let", 0);
        idle(1, "let", 1);
        idle(NONE, "let", -1);
        idle(NONE, "let", 2);
        idle(NONE, "let", LOW);
        idle(NONE, "let", HIGH);
        go("answer", 0, 0);
        idle(NONE, "let", 0);
        idle(NONE, "let", 1);
    }

    private static void alikeCalls() {
        edge("31", "ALIKE: how many twos (i NONE), the i-th as ten times the lower and the higher one, rising.");
        int[] names = {11, 22, 13, 42, 99, 91};
        for (int name : names) {
            go("spark", 12, 5, name);
        }
        // 11 and 13, 11 and 91, 22 and 42, 99 and 91
        int[] twos = {2, 5, 13, 45};
        idle(4, "alike", NONE);
        for (int i = 0; i < 4; i++) {
            idle(twos[i], "alike", i);
        }

        edge("31", "NONE.");
        idle(NONE, "alike", 0);
        go("spark", 12, 5, 11);
        idle(NONE, "alike", 0);
        go("spark", 12, 5, 12);
        idle(1, "alike", NONE);
        idle(1, "alike", 0);
        idle(NONE, "alike", 1);
        idle(NONE, "alike", -2);
        idle(NONE, "alike", LOW);
        idle(NONE, "alike", HIGH);
    }

    private static void anewCalls() {
        edge("32", "ANEW: how many (what 0), which, as bits (1).");
        idle(0, "anew", 0);
        idle(0, "anew", 1);
        go("spark", 12, 5, 11);
        idle(0, "anew", 0);
        go("spark", 12, 5, 22);
        go("spark", 12, 5, 12);
        idle(1, "anew", 0);
        idle(4, "anew", 1);
        // GONE ones, too
        people(12);
        go("terms", 3, 12);
        due(0, "call", 2, 0);
        idle(1, "anew", 0);
        idle(4, "anew", 1);

        edge("32", "NONE.");
        idle(NONE, "anew", -1);
        idle(NONE, "anew", 2);
        busy();
        idle(NONE, "anew", -1);
        idle(NONE, "anew", 2);
        idle(NONE, "anew", LOW);
        idle(NONE, "anew", HIGH);
        idle(1, "anew", 0);
        idle(1, "anew", 1);
    }

    private static void guardCalls() {
        edge("33", "A GUARD: how many (what 0), who, as bits (1).");
        idle(0, "guard", 0, 0);
        idle(0, "guard", 4, 1);
        sparks(12, 13, 14, 17, 18, 19);
        people(0, 1, 2, 3, 4);
        idle(1, "guard", 0, 0);
        idle(1, "guard", 0, 1);
        idle(5, "guard", 4, 0);
        idle(31, "guard", 4, 1);
        go("knows", 0, 31);
        idle(2, "guard", 0, 1);

        edge("33", "NONE (it can't be).");
        busy();
        idle(1, "guard", 0, 0);
        idle(2, "guard", 0, 1);
        idle(NONE, "guard", 1, 0);
        idle(NONE, "guard", 1, 1);
        idle(NONE, "guard", 4, 0);
        idle(NONE, "guard", -1, 0);
        idle(NONE, "guard", 5, 0);
        idle(NONE, "guard", LOW, 0);
        idle(NONE, "guard", HIGH, 0);
        idle(NONE, "guard", 0, -1);
        idle(NONE, "guard", 0, 2);
        idle(NONE, "guard", 0, LOW);
        idle(NONE, "guard", 0, HIGH);
        go("knows", 1, 1);
        idle(NONE, "guard", 0, 0);
    }

    private static void lessonsCalls() {
        edge("34", "LESSONS.");
        idle(0, "lessons", 0);
        people(0, 1, 2, 3, 4);
        for (int k = 0; k <= 5; k++) {
            idle(0, "lessons", k);
        }
        sparks(12);
        idle(0, "lessons", 5);
        go("knows", 4, 62);
        idle(0, "lessons", 4);
        idle(1, "lessons", 5);
        sparks(13, 14, 17, 18, 19);
        for (int p = 0; p < 5; p++) {
            go("knows", p, 0);
        }
        idle(30, "lessons", 5);

        edge("34", "NONE (not so many PEOPLE; another k).");
        idle(NONE, "lessons", 1);
        busy();
        idle(1, "lessons", 2);
        idle(NONE, "lessons", 3);
        idle(NONE, "lessons", 5);
        idle(NONE, "lessons", 6);
        idle(NONE, "lessons", -1);
        idle(NONE, "lessons", LOW);
        idle(NONE, "lessons", HIGH);
        for (int p = 2; p < 5; p++) {
            go("person", 12, 8);
        }
        idle(7, "lessons", 5);
        idle(NONE, "lessons", 6);
    }

    private static void driftCalls() {
        edge("35", "DRIFT n MINUTES 0 .. 60 on.");
        sparks(0);
        row(2, 0, 1, 3, 5, 3);
        // it can't go anywhere
        idle(1000000000000L, "drift", 0, 0, 0);
        idle(1000000000000L, "drift", 0, 60, 0);
        idle(0, "drift", 0, 60, 24);
        row(2, 0, 1, 0, 6, 3);
        idle(900000000000L, "drift", 0, 1, 0);
        idle(100000000000L, "drift", 0, 1, 1);

        edge("35", "NONE (GONE, too).");
        idle(NONE, "drift", 0, 0, 0);
        busy();
        idle(NONE, "drift", 0, -1, 12);
        idle(NONE, "drift", 0, 61, 12);
        idle(NONE, "drift", 0, 0, -1);
        idle(NONE, "drift", 0, 0, 25);
        idle(NONE, "drift", -1, 0, 12);
        idle(NONE, "drift", 2, 0, 12);
        idle(NONE, "drift", LOW, LOW, LOW);
        idle(NONE, "drift", HIGH, HIGH, HIGH);
        go("terms", 3, 11);
        due(1, "call", 0, 0);
        idle(NONE, "drift", 0, 0, 12);
        idle(NONE, "drift", 0, 60, 11);
    }

    private static void soddenCalls() {
        edge("36", "SODDEN.");
        sparks(24);
        go("terms", 1, 0);
        idle(24, "sodden", 0, 0);
        idle(24, "sodden", 0, 60);
        go("terms", 1, 2);
        long most = 0;
        int cell = NONE;
        for (int c = 0; c < 25; c++) {
            long part = go("drift", 0, 60, c);
            if (part > most) {
                most = part;
                cell = c;
            }
        }
        idle(cell, "sodden", 0, 60);

        edge("36", "NONE.");
        idle(NONE, "sodden", 0, 0);
        busy();
        idle(NONE, "sodden", 0, -1);
        idle(NONE, "sodden", 0, 61);
        idle(NONE, "sodden", 0, LOW);
        idle(NONE, "sodden", 0, HIGH);
        idle(NONE, "sodden", -1, 0);
        idle(NONE, "sodden", 2, 0);
        idle(NONE, "sodden", HIGH, 0);
        go("terms", 3, 11);
        due(1, "call", 0, 0);
        idle(NONE, "sodden", 0, 0);
    }

    private static void hotCalls() {
        edge("37", "HOT.");
        busy();
        idle(13, "hot", NONE, 0);
        idle(13, "hot", 0, 0);
        // SPARK 1 burns down by 1 each MINUTE, SPARK 0 from CELL 13 on
        idle(11, "hot", 0, 1);
        idle(0, "hot", 0, 60);
        idle(13, "hot", NONE, 1);

        edge("37", "NONE (no such LAW, n).");
        idle(NONE, "hot", 0, 0);
        idle(0, "hot", NONE, 0);
        busy();
        idle(NONE, "hot", 1, 0);
        idle(NONE, "hot", -2, 0);
        idle(NONE, "hot", LOW, 0);
        idle(NONE, "hot", HIGH, 0);
        idle(NONE, "hot", 0, -1);
        idle(NONE, "hot", 0, 61);
        idle(NONE, "hot", NONE, 61);
        idle(NONE, "hot", NONE, LOW);
        idle(NONE, "hot", 0, HIGH);
        for (int i = 1; i < 6; i++) {
            law(i, "bars");
        }
        idle(13, "hot", 5, 0);
        idle(NONE, "hot", 6, 0);
    }

    private static void nightsCalls() {
        edge("38", "NIGHTS, kept as the latest: how many CALLS there were.");
        sparks(12);
        people(6);
        go("knows", 0, 0);
        due(0, "nights", 0, 60);
        due(0, "status");
        go("knows", 0, 1);
        // each third DRAW that is 0 modulo 3 is a CALL that can be
        long s = 4711;
        int calls = 0;
        for (int n = 1; n <= 60; n++) {
            for (int i = 0; i < 3; i++) {
                s = (s * 1103 + 12345) % 1000003;
            }
            calls += s % 3 == 0 ? 1 : 0;
            if (n == 1 || n >= 59) {
                due(calls, "nights", 4711, n);
            }
        }
        int latest = (int) go("drawn", 0, 2);
        refused(-1, "nights", 4711, 61);
        due(latest, "drawn", 0, 2);

        edge("38", "-1;");
        busy();
        for (int wrong : new int[] {-1, 1000001, LOW, HIGH}) {
            refused(-1, "nights", wrong, 1);
        }
        for (int wrong : new int[] {0, 61, -1, LOW, HIGH}) {
            refused(-1, "nights", 1, wrong);
        }
        go("nights", 0, 1);
        due(0, "status");
        go("nights", 1000000, 60);
        due(0, "status");

        edge("38", "-3 there are no SPARKS, no PEOPLE.");
        refused(-3, "nights", 0, 1);
        refused(-3, "nights", 1000000, 60);
        sparks(12);
        refused(-3, "nights", 0, 1);
        again();
        people(12);
        refused(-3, "nights", 0, 1);
        due(NOTHING, "drawn", 0, 2);
        // SPARKS that are all GONE are SPARKS
        sparks(12);
        go("terms", 3, 12);
        due(0, "call", 0, 0);
        due(0, "nights", 0, 1);
        due(0, "status");
        due(NONE, "drawn", 0, 0);
    }

    private static void drawnCalls() {
        edge("39", "Behind the latest NIGHTS the CELL (what 0; NONE: GONE), HEAT (1) of SPARK k, "
                + "the CELL of PERSON k (2).");
        sparks(12, 1);
        people(6, 24);
        go("knows", 0, 0);
        go("knows", 1, 0);
        rule("goes 2;burns 1;burns 0-3 if spark=1");
        // 1 MINUTE, then 2: the walls keep the PEOPLE where they are
        row(6, 0, 1, 3, 5, 3, 7, 3, 11, 3, 19, 3, 23, 3);
        due(0, "nights", 0, 1);
        int[] cells = {13, 2};
        int[] heats = {6, 2};
        for (int k = 0; k < 2; k++) {
            idle(cells[k], "drawn", k, 0);
            idle(heats[k], "drawn", k, 1);
        }
        idle(6, "drawn", 0, 2);
        idle(24, "drawn", 1, 2);
        due(0, "nights", 0, 2);
        idle(14, "drawn", 0, 0);
        idle(7, "drawn", 0, 1);
        idle(NONE, "drawn", 1, 0);
        idle(0, "drawn", 1, 1);

        edge("39", "NOTHING.");
        idle(NOTHING, "drawn", 0, 0);
        sparks(12, 13);
        people(6);
        idle(NOTHING, "drawn", 0, 0);
        idle(NOTHING, "drawn", 0, 1);
        idle(NOTHING, "drawn", 0, 2);
        go("nights", 0, 1);
        for (int k : new int[] {-1, 2, 6, LOW, HIGH}) {
            idle(NOTHING, "drawn", k, 0);
            due(NOTHING, "drawn", k, 1);
            due(NOTHING, "drawn", k, 2);
        }
        idle(NOTHING, "drawn", 1, 2);
        idle(NOTHING, "drawn", 0, -1);
        idle(NOTHING, "drawn", 0, 3);
        idle(NOTHING, "drawn", 0, LOW);
        idle(NOTHING, "drawn", 0, HIGH);
        // of those NIGHTS, not of now
        sparks(14);
        people(7);
        idle(NOTHING, "drawn", 2, 0);
        idle(NOTHING, "drawn", 1, 2);
    }
}
