/** Terms III: CALLS, floors wetted, steps, MINUTES. */
final class DeedsEdges extends Edges {
    private DeedsEdges() {
    }

    static void run() {
        calling();
        calledHome();
        wetting();
        walking();
        goingOn();
        burningDown();
        askedAhead();
        lastMinute();
    }

    private static void calling() {
        edge("III: 7, 19", "To CALL a SPARK that is not GONE, that the PERSON KNOWS, that is no "
                + "FARTHER than its REACH, "
                + "does not SHUN it: it is in the PERSON's CELL;");
        // SPARK 0 is 3 FAR from all of them, of whom 1 reaches 2, 2 does not KNOW it, 3 is SHUNNED
        sparks(12, 24);
        due(0, "person", 5, 3);
        due(1, "person", 5, 2);
        due(2, "person", 5, 3);
        due(3, "person", 5, 3);
        go("knows", 0, 1);
        go("knows", 1, 1);
        go("knows", 2, 62);
        go("knows", 3, 1);
        rule("shuns if person=3");
        due(3, "asks", 0, 0, 0);
        int[] comes = {1, 0, 0, 0};
        for (int p = 0; p < 4; p++) {
            due(p == 3 ? 1 : 0, "asks", 0, p, 1);
            due(comes[p], "asks", 0, p, 2);
        }
        refused(-3, "call", 0, 1);
        refused(-3, "call", 0, 2);
        refused(-3, "call", 0, 3);
        due(3, "call", 0, 0);
        due(5, "of", 0, 0);
        due(5, "of", 0, 1);
        due(24, "of", 1, 0);
        // in the same CELL it comes from no way off
        due(0, "call", 0, 0);
        due(5, "of", 0, 0);
    }

    private static void calledHome() {
        edge("III: 19", "if that is HOME, it is GONE (HEAT 0).");
        sparks(12, 13, 0);
        people(0, 1);
        due(3, "call", 0, 1);
        due(1, "of", 0, 0);
        due(5, "of", 0, 1);
        due(1, "call", 0, 0);
        due(NONE, "of", 0, 0);
        due(0, "of", 0, 1);
        refused(-3, "call", 0, 0);
        refused(-3, "call", 0, 1);
        // in HOME's CELL it is not HOME yet
        due(0, "of", 2, 0);
        due(5, "of", 2, 1);
        due(0, "call", 2, 0);
        due(NONE, "of", 2, 0);
        due(1, "count", 1);
    }

    private static void wetting() {
        edge("III: 20", "To WET a CELL that is floor or paper: it is wet.");
        row(3, 0, 1, 1, 2, 2, 3, 3);
        due(0, "wet", 0);
        due(1, "floor", 0);
        due(2, "wet", 2);
        due(1, "floor", 2);
        refused(-3, "wet", 1);
        refused(-3, "wet", 3);
        refused(-3, "wet", 0);
        refused(-3, "wet", 2);
        due(3, "floor", 3);
    }

    private static void walking() {
        edge("III: 21", "To WALK a WAY 1 .. 4 within the edge to a CELL that is no wall.");
        // in each corner two WAYS lead beyond the edge
        people(0, 4, 20, 24);
        int[][] to = {{5, 1, -3, -3}, {9, -3, -3, 3}, {-3, 21, 15, -3}, {-3, -3, 19, 23}};
        int[] back = {3, 4, 1, 2};
        for (int p = 0; p < 4; p++) {
            for (int way = 1; way <= 4; way++) {
                if (to[p][way - 1] == -3) {
                    refused(-3, "walk", p, way);
                } else {
                    due(to[p][way - 1], "walk", p, way);
                    go("walk", p, back[way - 1]);
                }
            }
        }
        refused(-1, "walk", 0, 0);
        refused(-1, "walk", 0, 5);
        again();
        people(12);
        row(4, 0, 17, 3, 13, 1, 7, 2, 11, 0);
        refused(-3, "walk", 0, 1);
        due(13, "walk", 0, 2);
        due(12, "walk", 0, 4);
        due(7, "walk", 0, 3);
        due(12, "walk", 0, 1);
        due(11, "walk", 0, 4);
        // what bars SPARKS does not bar PEOPLE
        rule("bars");
        due(10, "walk", 0, 4);
        due(11, "walk", 0, 2);
        // out of a wall, but not to another
        row(2, 0, 11, 3, 10, 3);
        refused(-3, "walk", 0, 4);
        due(12, "walk", 0, 2);
        refused(-3, "walk", 0, 4);
    }

    private static void goingOn() {
        edge("III: 22", "A MINUTE: each SPARK GOES its WAY, if that is within the edge and it is not BARRED there "
                + "(else it stays);");
        int[] corners = {0, 4, 20, 24};
        int[][] to = {{5, 1, 0, 0}, {9, 4, 4, 3}, {20, 21, 15, 20}, {24, 24, 19, 23}};
        for (int way = 1; way <= 4; way++) {
            again();
            sparks(corners);
            rule("goes " + way);
            due(1, "pass");
            for (int k = 0; k < 4; k++) {
                due(to[k][way - 1], "of", k, 0);
            }
        }
        again();
        sparks(11, 12, 13);
        row(1, 0, 14, 3);
        rule("goes 2;bars if x=2");
        due(1, "pass");
        due(11, "of", 0, 0);
        due(13, "of", 1, 0);
        due(13, "of", 2, 0);
        due(0, "count", 12);
    }

    private static void burningDown() {
        edge("III: 22", "then each BURNS where it is (HEAT 0 .. 9); at 0 it is GONE");
        int[] heats = {1, 3, 4, 6, 7, 9};
        // cut to 0 and to 9
        int[] down = {0, 0, 1, 3, 4, 6};
        int[] up = {4, 6, 7, 9, 9, 9};
        for (int by = -1; by <= 1; by += 2) {
            again();
            for (int heat : heats) {
                go("spark", 12, heat, 5);
            }
            rule(by < 0 ? "goes 2;burns 0-3 if x=3" : "goes 2;burns 3 if x=3");
            due(1, "pass");
            for (int k = 0; k < 6; k++) {
                int heat = by < 0 ? down[k] : up[k];
                due(heat, "of", k, 1);
                due(heat == 0 ? NONE : 13, "of", k, 0);
            }
        }
        due(6, "count", 1);
        // where it is then: from paper to a wet CELL
        again();
        go("spark", 11, 4, 5);
        go("spark", 11, 3, 5);
        row(2, 0, 11, 2, 12, 1);
        rule("goes 2");
        due(1, "pass");
        due(12, "of", 0, 0);
        due(1, "of", 0, 1);
        due(NONE, "of", 1, 0);
        // one that is GONE neither goes nor burns
        rule("goes 2;burns 3");
        due(2, "pass");
        due(NONE, "of", 1, 0);
        due(0, "of", 1, 1);
    }

    private static void askedAhead() {
        edge("III: 22", "(all asked as it was ahead of each of both; it can go through HOME)");
        // HEAT 5 when it goes, then in CELL 13 with HEAT 5 and MINUTE 0 when it burns
        sparks(12);
        rule("goes 2 if heat=5 and minute=0;burns 0-1;burns 0-2 if x=3 and heat=5 and minute=0");
        due(1, "pass");
        due(13, "of", 0, 0);
        due(3, "of", 0, 1);
        again();
        sparks(1);
        rule("goes 4;goes 1 if x=0");
        due(1, "pass");
        due(0, "of", 0, 0);
        due(5, "of", 0, 1);
        due(2, "pass");
        due(5, "of", 0, 0);
        due(5, "of", 0, 1);
        due(1, "count", 1);
    }

    private static void lastMinute() {
        edge("III: 22", "it is the next MINUTE (at 999 it can't be).");
        due(1, "pass");
        due(2, "pass");
        again();
        busy();
        go("terms", 0, 998);
        due(999, "pass");
        refused(-3, "pass");
        due(3, "undo");
        due(998, "count", 13);
        due(999, "pass");
        refused(-3, "pass");
    }
}
