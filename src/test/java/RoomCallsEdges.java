/** Promises 1 to 9: the room, its SPARKS and its PEOPLE. */
final class RoomCallsEdges extends Edges {
    private RoomCallsEdges() {
    }

    static void run() {
        emptyRoom();
        sparkCalls();
        ofCalls();
        personCalls();
        atCalls();
        knowsCalls();
        asksCalls();
        floorCalls();
        termsCalls();
    }

    private static void emptyRoom() {
        edge("1", "An empty room.");
        int[] counts = {0, 0, 0, 0, 0, 0, 0, 0, 0, 0, 0, 0, NONE, 0, 1, 0, 0};
        for (int what = 0; what < counts.length; what++) {
            due(counts[what], "count", what);
        }
        for (int cell = 0; cell < 25; cell++) {
            due(0, "floor", cell);
            due(NONE, "first", cell, 0);
        }
        for (int k = 0; k < 6; k++) {
            due(NOTHING, "of", k, 0);
            due(NONE, "at", k, 0);
            due(NONE, "asks", k, 0, 0);
            due(NOTHING, "where", k, 0);
            due(NONE, "chain", k, NONE);
            due(NONE, "drift", k, 0, 0);
            due(NONE, "sodden", k, 0);
            due(NOTHING, "drawn", k, 0);
            due(NOTHING, "drawn", k, 2);
        }
        due(0, "ash");
        due(NONE, "fault");
        due(NONE, "stopped");
        due(0, "status");
        due(0, "which");
        due(0, "forget");
        refused(-3, "undo");
        refused(-2, "back", 0);
        refused(-2, "back", 1);
        refused(-2, "force", 0);
        refused(-2, "call", 0, 0);
        refused(-2, "walk", 0, 1);
        refused(-2, "knows", 0, 1);
        refused(-2, "answer", 0, 1);
        refused(-3, "nights", 0, 1);
        refused(-6, "row");
        refusedText(-6, 0, NONE, "law");
        refusedText(-6, 0, NONE, "orders");
        // another object has a room of its own
        again();
        sparks(12);
        again();
        due(0, "count", 0);
    }

    private static void sparkCalls() {
        edge("2", "A SPARK: its number.");
        for (int k = 0; k < 6; k++) {
            due(k, "spark", 4 * k, k + 1, 19 * k);
            due(0, "status");
        }
        for (int k = 0; k < 6; k++) {
            due(4 * k, "of", k, 0);
            due(k + 1, "of", k, 1);
            due(19 * k, "of", k, 2);
        }
        // in one CELL, by one NAME there can be more
        again();
        due(0, "spark", 7, 9, 99);
        due(1, "spark", 7, 9, 99);

        edge("2", "-1 (HEAT 1 .. 9);");
        busy();
        refused(-1, "spark", -1, 5, 5);
        refused(-1, "spark", 25, 5, 5);
        refused(-1, "spark", 12, 0, 5);
        refused(-1, "spark", 12, 10, 5);
        refused(-1, "spark", 12, 5, -1);
        refused(-1, "spark", 12, 5, 100);
        refused(-1, "spark", LOW, LOW, LOW);
        refused(-1, "spark", HIGH, HIGH, HIGH);
        due(2, "spark", 0, 1, 0);
        due(3, "spark", 24, 9, 99);

        edge("2", "-3 the CELL is a wall;");
        busy();
        refused(-3, "spark", 3, 1, 0);
        refused(-3, "spark", 3, 9, 99);
        due(2, "spark", 4, 5, 5);
        due(3, "spark", 7, 5, 5);
        due(4, "spark", 2, 5, 5);
        // a CELL that was a wall is none then
        row(1, 0, 3, 0);
        due(5, "spark", 3, 5, 5);

        edge("2", "-5.");
        busy();
        for (int k = 2; k < 6; k++) {
            due(k, "spark", 12, 5, 5);
        }
        refused(-5, "spark", 12, 5, 5);
        refused(-3, "spark", 3, 5, 5);
        // GONE ones count, too
        go("terms", 3, 11);
        due(1, "call", 0, 0);
        due(5, "count", 1);
        refused(-5, "spark", 12, 5, 5);
    }

    private static void ofCalls() {
        edge("3", "Of a SPARK the CELL (what 0; NONE: GONE), HEAT (1), NAME (2), the WAY it GOES (3), "
                + "by how much it BURNS (4), who KNOWS it, as bits (5).");
        busy();
        int[] first = {12, 5, 34, 2, 0, 3};
        int[] second = {18, 8, 31, 2, -1, 2};
        for (int what = 0; what <= 5; what++) {
            idle(first[what], "of", 0, what);
            idle(second[what], "of", 1, what);
        }
        again();
        sparks(1);
        people(0, 0, 0, 0, 0);
        idle(31, "of", 0, 5);
        due(1, "call", 0, 0);
        int[] gone = {NONE, 0, 0, NOTHING, NOTHING, 31};
        for (int what = 0; what <= 5; what++) {
            idle(gone[what], "of", 0, what);
        }

        edge("3", "NOTHING (3, 4: if it is GONE, too).");
        busy();
        for (int k : new int[] {-1, 2, 6, LOW, HIGH}) {
            for (int what = 0; what <= 5; what++) {
                due(NOTHING, "of", k, what);
            }
        }
        idle(NOTHING, "of", 2, 0);
        idle(NOTHING, "of", 0, -1);
        idle(NOTHING, "of", 0, 6);
        idle(NOTHING, "of", 0, LOW);
        idle(NOTHING, "of", 0, HIGH);
        go("spark", 18, 5, 5);
        due(5, "of", 2, 1);
        // burnt down
        again();
        due(0, "spark", 12, 3, 7);
        row(1, 0, 12, 1);
        due(-3, "of", 0, 4);
        due(1, "pass");
        idle(NOTHING, "of", 0, 3);
        idle(NOTHING, "of", 0, 4);
        idle(7, "of", 0, 2);
        idle(0, "of", 0, 5);
    }

    private static void personCalls() {
        edge("4", "A PERSON: the number.");
        for (int p = 0; p < 5; p++) {
            due(p, "person", 6 * p, 2 * p);
            due(0, "status");
        }
        for (int p = 0; p < 5; p++) {
            due(6 * p, "at", p, 0);
            due(2 * p, "at", p, 1);
            due(0, "at", p, 2);
        }

        edge("4", "-1;");
        busy();
        refused(-1, "person", -1, 5);
        refused(-1, "person", 25, 5);
        refused(-1, "person", 12, -1);
        refused(-1, "person", 12, 9);
        refused(-1, "person", LOW, LOW);
        refused(-1, "person", HIGH, HIGH);
        due(2, "person", 0, 0);
        due(3, "person", 24, 8);

        edge("4", "-3 the CELL is a wall;");
        busy();
        refused(-3, "person", 3, 0);
        refused(-3, "person", 3, 8);
        due(2, "person", 4, 5);
        due(3, "person", 7, 5);
        due(4, "person", 2, 5);

        edge("4", "-5.");
        busy();
        for (int p = 2; p < 5; p++) {
            due(p, "person", 12, 5);
        }
        refused(-5, "person", 12, 5);
        refused(-3, "person", 3, 5);
    }

    private static void atCalls() {
        edge("5", "Of a PERSON the CELL (what 0), REACH (1), KNOWS (2).");
        busy();
        int[] first = {11, 2, 1};
        int[] second = {19, 8, 3};
        for (int what = 0; what <= 2; what++) {
            idle(first[what], "at", 0, what);
            idle(second[what], "at", 1, what);
        }

        edge("5", "NONE.");
        busy();
        for (int p : new int[] {-1, 2, 5, LOW, HIGH}) {
            idle(NONE, "at", p, 0);
            due(NONE, "at", p, 1);
            due(NONE, "at", p, 2);
        }
        idle(NONE, "at", 0, -1);
        idle(NONE, "at", 0, 3);
        idle(NONE, "at", 0, LOW);
        idle(NONE, "at", 0, HIGH);
    }

    private static void knowsCalls() {
        edge("6", "What a PERSON KNOWS, as bits 0 .. 63: what it was.");
        people(12);
        due(63, "knows", 0, 0);
        due(0, "knows", 0, 63);
        due(63, "knows", 0, 1);
        due(1, "knows", 0, 32);
        due(32, "at", 0, 2);
        // it does not stand in the way of undoing, and is not undone
        due(17, "walk", 0, 1);
        due(32, "knows", 0, 5);
        due(1, "count", 5);
        due(2, "undo");
        due(5, "at", 0, 2);

        edge("6", "-1;");
        busy();
        refused(-1, "knows", 0, -1);
        refused(-1, "knows", 0, 64);
        refused(-1, "knows", 0, LOW);
        refused(-1, "knows", 0, HIGH);
        refused(-1, "knows", 2, 64);

        edge("6", "-2.");
        busy();
        refused(-2, "knows", -1, 0);
        refused(-2, "knows", 2, 63);
        refused(-2, "knows", 5, 63);
        refused(-2, "knows", LOW, 0);
        refused(-2, "knows", HIGH, 0);
        due(3, "knows", 1, 3);
    }

    private static void asksCalls() {
        edge("7", "Of a SPARK and a PERSON how FAR they are (what 0), whether it SHUNS that (1: 1, 0), "
                + "whether it would come (2: 1, 0).");
        busy();
        int[][] first = {{1, 0, 1}, {3, 1, 0}};
        int[][] second = {{3, 0, 0}, {1, 0, 1}};
        for (int p = 0; p <= 1; p++) {
            for (int what = 0; what <= 2; what++) {
                idle(first[p][what], "asks", 0, p, what);
                idle(second[p][what], "asks", 1, p, what);
            }
        }

        edge("7", "NONE (GONE, too).");
        busy();
        idle(NONE, "asks", -1, 0, 0);
        idle(NONE, "asks", 2, 0, 0);
        idle(NONE, "asks", 0, -1, 1);
        idle(NONE, "asks", 0, 2, 1);
        idle(NONE, "asks", 0, 0, -1);
        idle(NONE, "asks", 0, 0, 3);
        idle(NONE, "asks", LOW, LOW, LOW);
        idle(NONE, "asks", HIGH, HIGH, HIGH);
        go("terms", 3, 11);
        due(1, "call", 0, 0);
        for (int what = 0; what <= 2; what++) {
            idle(NONE, "asks", 0, 0, what);
        }
    }

    private static void floorCalls() {
        edge("8", "The KIND of a CELL.");
        busy();
        int[] kinds = {0, 0, 0, 3, 2, 0, 0, 1};
        for (int cell = 0; cell < kinds.length; cell++) {
            idle(kinds[cell], "floor", cell);
        }
        idle(1, "floor", 20);
        idle(0, "floor", 24);

        edge("8", "NONE.");
        busy();
        idle(NONE, "floor", -1);
        idle(NONE, "floor", 25);
        idle(NONE, "floor", LOW);
        idle(NONE, "floor", HIGH);
    }

    private static void termsCalls() {
        edge("9", "A TERM: what it was.");
        int[] most = {999, 2, 9, 24};
        int[] first = {0, 1, 0, 0};
        for (int what = 0; what <= 3; what++) {
            due(first[what], "terms", what, most[what]);
            due(0, "status");
            due(most[what], "terms", what, most[what] - 1);
            due(most[what] - 1, "terms", what, 0);
            due(0, "terms", what, 1);
        }
        for (int what = 0; what <= 3; what++) {
            due(1, "count", 13 + what);
        }

        edge("9", "-1.");
        busy();
        for (int what = 0; what <= 3; what++) {
            refused(-1, "terms", what, most[what] + 1);
            refused(-1, "terms", what, -1);
        }
        for (int what : new int[] {-1, 4, LOW, HIGH}) {
            refused(-1, "terms", what, 0);
        }
    }
}
