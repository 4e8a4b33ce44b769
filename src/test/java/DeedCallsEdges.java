/** Promises 19 to 23: the deeds, and how they are undone. */
final class DeedCallsEdges extends Edges {
    private DeedCallsEdges() {
    }

    static void run() {
        callCalls();
        wetCalls();
        walkCalls();
        passCalls();
        undoCalls();
        sixteen();
        undoNone();
        nothingAhead();
    }

    private static void callCalls() {
        edge("19", "To CALL: how FAR it was.");
        sparks(24, 4);
        people(4, 20, 4, 5);
        due(4, "call", 0, 0);
        due(8, "call", 0, 1);
        due(0, "call", 0, 1);
        due(0, "call", 1, 2);
        due(5, "call", 1, 3);
        due(0, "status");
        due(5, "count", 5);

        edge("19", "-2;");
        refused(-2, "call", 0, 0);
        sparks(12);
        refused(-2, "call", 0, 0);
        again();
        people(12);
        refused(-2, "call", 0, 0);
        again();
        busy();
        for (int k : new int[] {-1, 2, 6, 32, LOW, HIGH}) {
            refused(-2, "call", k, 0);
            refused(-2, "call", 0, k);
        }
        // ahead of what can't be
        refused(-2, "call", 1, 2);

        edge("19", "-3.");
        busy();
        // not KNOWN, SHUNNED, too FAR, GONE
        refused(-3, "call", 1, 0);
        refused(-3, "call", 0, 1);
        due(10, "walk", 0, 4);
        due(15, "walk", 0, 1);
        refused(-3, "call", 0, 0);
        due(10, "walk", 0, 3);
        due(2, "call", 0, 0);
        go("terms", 3, 10);
        due(0, "call", 0, 0);
        due(NONE, "of", 0, 0);
        refused(-3, "call", 0, 0);
    }

    private static void wetCalls() {
        edge("20", "To WET: the KIND it was.");
        row(1, 0, 24, 2);
        due(0, "wet", 0);
        due(2, "wet", 24);
        due(0, "status");
        due(2, "count", 5);

        edge("20", "-1;");
        busy();
        refused(-1, "wet", -1);
        refused(-1, "wet", 25);
        refused(-1, "wet", LOW);
        refused(-1, "wet", HIGH);

        edge("20", "-3.");
        busy();
        refused(-3, "wet", 3);
        refused(-3, "wet", 7);
        refused(-3, "wet", 20);
        due(2, "wet", 4);
        refused(-3, "wet", 4);
        // undone it can be wetted again
        due(1, "undo");
        due(2, "wet", 4);
    }

    private static void walkCalls() {
        edge("21", "To WALK: the CELL then.");
        people(0);
        int[] round = {5, 6, 1, 0};
        for (int way = 1; way <= 4; way++) {
            due(round[way - 1], "walk", 0, way);
            due(0, "status");
        }
        due(4, "count", 5);

        edge("21", "-1 (the WAY);");
        refused(-1, "walk", 0, 0);
        busy();
        refused(-1, "walk", 0, 0);
        refused(-1, "walk", 0, 5);
        refused(-1, "walk", 0, -1);
        refused(-1, "walk", 0, LOW);
        refused(-1, "walk", 0, HIGH);
        refused(-1, "walk", 2, 5);

        edge("21", "-2;");
        refused(-2, "walk", 0, 1);
        busy();
        for (int p : new int[] {-1, 2, 5, LOW, HIGH}) {
            refused(-2, "walk", p, 1);
            refused(-2, "walk", p, 4);
        }

        edge("21", "-3.");
        busy();
        refused(-3, "walk", 1, 2);
        due(2, "person", 2, 5);
        refused(-3, "walk", 2, 2);
        refused(-3, "walk", 2, 3);
        due(7, "walk", 2, 1);
    }

    private static void passCalls() {
        edge("22", "A MINUTE: its number.");
        due(1, "pass");
        due(2, "pass");
        due(0, "status");
        go("terms", 0, 998);
        due(999, "pass");
        due(1, "count", 5);

        edge("22", "-3.");
        busy();
        go("terms", 0, 999);
        refused(-3, "pass");
        refused(-3, "pass");
        go("terms", 0, 998);
        due(999, "pass");
        refused(-3, "pass");
    }

    private static void undoCalls() {
        edge("23", "The latest call(), wet(), walk(), pass() (by ORDERS, too;");
        sparks(12, 6);
        people(1, 8);
        row(1, 0, 9, 2);
        rule("goes 2;burns 1");
        due(3, "call", 0, 0);
        due(2, "wet", 9);
        due(13, "walk", 1, 1);
        due(1, "pass");
        due(3, "undo");
        due(0, "count", 13);
        due(1, "of", 0, 0);
        due(5, "of", 0, 1);
        due(6, "of", 1, 0);
        due(5, "of", 1, 1);
        due(2, "undo");
        due(8, "at", 1, 0);
        due(1, "undo");
        due(2, "floor", 9);
        due(0, "undo");
        due(12, "of", 0, 0);
        refused(-3, "undo");
        orders(4, "call 0 by 0;wet 9;walk 1 to 1;pass");
        for (int deed = 3; deed >= 0; deed--) {
            due(deed, "undo");
            due(0, "status");
        }
        due(12, "of", 0, 0);
        due(2, "floor", 9);
        due(8, "at", 1, 0);
        due(0, "count", 13);
        refused(-3, "undo");
        // whatever their order
        again();
        sparks(12);
        people(6);
        orders(4, "pass;walk 0 to 1;wet 9;call 0 by 0");
        for (int deed = 0; deed <= 3; deed++) {
            due(deed, "undo");
        }
        due(12, "of", 0, 0);
        due(0, "floor", 9);
        due(6, "at", 0, 0);
        due(0, "count", 13);
        // one that is GONE comes back with its HEAT: CALLED HOME, burnt down
        again();
        sparks(12, 13);
        people(0);
        due(4, "call", 0, 0);
        due(0, "undo");
        due(12, "of", 0, 0);
        due(5, "of", 0, 1);
        rule("goes 0;burns 0-3");
        due(1, "pass");
        due(2, "pass");
        due(0, "count", 1);
        due(3, "undo");
        due(2, "count", 1);
        due(2, "of", 1, 1);

        edge("23", "is undone: 0 .. 3.");
        sparks(12);
        people(12);
        due(0, "call", 0, 0);
        due(0, "wet", 12);
        due(17, "walk", 0, 1);
        due(1, "pass");
        due(4, "count", 5);
        for (int deed = 3; deed >= 0; deed--) {
            due(deed, "undo");
            due(deed, "count", 5);
        }
    }

    private static void sixteen() {
        edge("23", "16 are kept)");
        for (int i = 0; i < 16; i++) {
            due(i, "count", 5);
            due(0, "wet", i);
        }
        due(16, "count", 5);
        due(0, "wet", 16);
        due(16, "count", 5);
        refused(-3, "wet", 16);
        for (int i = 16; i >= 1; i--) {
            due(1, "floor", i);
            due(1, "undo");
            due(0, "floor", i);
        }
        refused(-3, "undo");
        due(1, "floor", 0);
        // many times round
        again();
        for (int i = 1; i <= 100; i++) {
            due(i, "pass");
        }
        for (int i = 99; i >= 84; i--) {
            due(3, "undo");
            due(i, "count", 13);
        }
        refused(-3, "undo");
        orders(240, repeated("pass times 20", ";", 12));
        due(16, "count", 5);
        for (int i = 0; i < 16; i++) {
            due(3, "undo");
        }
        refused(-3, "undo");
        due(308, "count", 13);
    }

    private static void undoNone() {
        edge("23", "-3 there is none");
        refused(-3, "undo");
        due(1, "pass");
        due(3, "undo");
        refused(-3, "undo");
        // what was REFUSED can't be undone, nor what is no deed
        again();
        busy();
        for (int i = 0; i < 4; i++) {
            go("undo");
        }
        go("wet", 3);
        go("walk", 0, 9);
        go("call", 1, 0);
        go("knows", 0, 3);
        go("answer", 0, 1);
        go("force", NONE);
        go("forget");
        go("image", 1);
        go("nights", 1, 1);
        tape("pass;wet 3");
        go("orders");
        law(1, "bars");
        due(0, "count", 5);
        refused(-3, "undo");
    }

    private static void nothingAhead() {
        edge("23", "(nothing that was ahead of a spark(), person(), terms(), row() that was not "
                + "REFUSED can be undone).");
        Call[] taken = {new Call("spark", 12, 5, 5), new Call("person", 12, 5), new Call("terms", 2, 0),
            new Call("row"), new Call("terms", 0, 1)};
        for (Call call : taken) {
            again();
            busy();
            due(4, "count", 5);
            go(call.name, call.args);
            due(0, "status");
            due(0, "count", 5);
            refused(-3, "undo");
            due(2, "pass");
            due(3, "undo");
            refused(-3, "undo");
        }
        Call[] wrong = {new Call("spark", 12, 0, 5), new Call("spark", 3, 5, 5), new Call("person", 12, 9),
            new Call("person", 3, 5), new Call("terms", 2, 10), new Call("terms", 4, 0)};
        int[] reasons = {-1, -3, -1, -3, -1, -1};
        again();
        busy();
        for (int i = 0; i < wrong.length; i++) {
            refused(reasons[i], wrong[i].name, wrong[i].args);
            due(4, "count", 5);
        }
        go("end", 0);
        refused(-6, "row");
        due(4, "count", 5);
        // these do not stand in its way
        go("knows", 0, 3);
        go("answer", 0, 1);
        go("forget");
        go("force", NONE);
        go("image", 1);
        go("nights", 1, 1);
        law(1, "bars");
        due(4, "count", 5);
        due(3, "undo");
        due(2, "undo");
        due(1, "undo");
        due(0, "undo");
        refused(-3, "undo");
        // not even a ROW of ASH alone
        again();
        due(1, "pass");
        row(0, 1, 99, 99);
        refused(-3, "undo");
    }
}
