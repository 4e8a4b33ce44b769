/** Promises 40 to 43: IMAGES, and what is counted. */
final class KeepCallsEdges extends Edges {
    private KeepCallsEdges() {
    }

    static void run() {
        imageCalls();
        backCalls();
        countCalls();
        countRefused();
        statusCalls();
    }

    private static void imageCalls() {
        edge("40", "IMAGE k is kept: 0;");
        due(0, "image", 0);
        due(0, "image", 1);
        due(0, "status");
        due(1, "pass");
        due(0, "image", 1);
        // it leaves what can be undone
        due(1, "count", 5);
        due(0, "back", 0);
        due(0, "count", 13);
        due(0, "back", 1);
        due(1, "count", 13);
        // kept anew, the older one is gone
        due(2, "pass");
        due(0, "image", 0);
        due(0, "back", 0);
        due(2, "count", 13);
        due(0, "back", 1);
        due(1, "count", 13);

        edge("40", "-1.");
        refused(-1, "image", -1);
        refused(-1, "image", 2);
        busy();
        refused(-1, "image", -1);
        refused(-1, "image", 2);
        refused(-1, "image", LOW);
        refused(-1, "image", HIGH);
    }

    private static void backCalls() {
        edge("41", "BACK to IMAGE k: 0.");
        busy();
        due(0, "back", 0);
        due(0, "status");
        due(9, "of", 1, 1);
        due(0, "floor", 20);
        due(0, "back", 0);
        due(0, "image", 1);
        due(0, "back", 1);
        // an IMAGE of the empty room, and one of a full one
        again();
        due(0, "image", 0);
        sparks(0, 1, 2, 3, 4, 5);
        people(6, 7, 8, 9, 10);
        for (int i = 0; i < 6; i++) {
            law(i, "bars");
            go("answer", 0, 1);
        }
        due(0, "image", 1);
        due(0, "back", 0);
        for (int what = 0; what <= 4; what++) {
            due(0, "count", what);
        }
        refused(-2, "force", 0);
        refused(-2, "call", 0, 0);
        sparks(20);
        due(0, "back", 1);
        int[] full = {6, 6, 5, 6, 6};
        for (int what = 0; what <= 4; what++) {
            due(full[what], "count", what);
        }
        due(0, "of", 0, 0);
        refused(-5, "spark", 12, 5, 5);
        refused(-5, "person", 12, 5);
        refused(-5, "answer", 0, 0);
        tape("bars");
        refusedText(-5, NONE, NONE, "law");

        edge("41", "-1;");
        refused(-1, "back", -1);
        refused(-1, "back", 2);
        busy();
        refused(-1, "back", -1);
        refused(-1, "back", 2);
        refused(-1, "back", LOW);
        refused(-1, "back", HIGH);

        edge("41", "-2 it was not kept.");
        refused(-2, "back", 0);
        refused(-2, "back", 1);
        busy();
        refused(-2, "back", 1);
        due(4, "count", 5);
        due(0, "image", 1);
        due(0, "back", 1);
    }

    private static void countCalls() {
        edge("42", "0 SPARKS, 1 how many are not GONE, 2 PEOPLE, 3 ANSWERS, 4 LAWS, 5 how many can be undone, "
                + "6 bytes of the TAPE,");
        busy();
        int[] counts = {2, 2, 2, 1, 1, 4, 20};
        for (int what = 0; what < counts.length; what++) {
            idle(counts[what], "count", what);
        }
        go("terms", 3, 11);
        due(1, "call", 0, 0);
        idle(2, "count", 0);
        idle(1, "count", 1);
        idle(1, "count", 5);
        due(1, "end", 1);
        idle(1, "count", 6);

        edge("42", "12 the LAW in FORCE, 13 .. 16 TERMS 0 .. 3.");
        idle(NONE, "count", 12);
        law(0, "bars");
        idle(NONE, "count", 12);
        go("force", 0);
        idle(0, "count", 12);
        int[] terms = {999, 2, 9, 24};
        int[] first = {0, 1, 0, 0};
        for (int what = 0; what < 4; what++) {
            idle(first[what], "count", 13 + what);
            go("terms", what, terms[what]);
            idle(terms[what], "count", 13 + what);
        }

        edge("42", "NONE for others.");
        idle(NONE, "count", -1);
        idle(NONE, "count", 17);
        idle(NONE, "count", LOW);
        idle(NONE, "count", HIGH);
        busy();
        idle(NONE, "count", -1);
        idle(NONE, "count", 17);
    }

    private static void countRefused() {
        edge("42", "7 .. 11 how many calls were REFUSED by -1, -2, -3, -5, -6 (IMAGES do not keep that),");
        for (int what = 7; what <= 11; what++) {
            idle(0, "count", what);
        }
        due(0, "image", 0);
        for (int p = 0; p < 5; p++) {
            go("person", 0, 0);
        }
        for (int i = 0; i < 5; i++) {
            refused(-6, "row");
            if (i < 4) {
                refused(-5, "person", 0, 0);
            }
            if (i < 3) {
                refused(-3, "undo");
            }
            if (i < 2) {
                refused(-2, "force", 3);
            }
        }
        refused(-1, "image", 2);
        for (int turn = 0; turn < 2; turn++) {
            for (int what = 7; what <= 11; what++) {
                due(what - 6, "count", what);
            }
            due(0, "back", 0);
        }
        // what only answers NONE, NOTHING is not REFUSED
        go("feed", 0, 0, 0, 0, 0);
        go("end", 99);
        go("end", -1);
        go("end", 0);
        go("of", 9, 9);
        go("at", 9, 9);
        go("asks", 9, 9, 9);
        go("floor", 99);
        go("where", 9, 99);
        go("first", 99, 9);
        go("chain", 9, 9);
        go("let", 9);
        go("alike", 99);
        go("anew", 9);
        go("guard", 9, 9);
        go("lessons", 9);
        go("drift", 9, 99, 99);
        go("sodden", 9, 99);
        go("hot", 9, 99);
        go("drawn", 9, 9);
        go("count", 99);
        for (int what = 7; what <= 11; what++) {
            due(what - 6, "count", what);
        }
        // ORDERS that stop are one call that was REFUSED by -3, whatever their CLAUSE was by
        tape("pass;wet 25");
        due(-3, "orders");
        tape("call 9 by 9");
        due(-3, "orders");
        int[] due = {1, 2, 5, 4, 5};
        for (int what = 7; what <= 11; what++) {
            due(due[what - 7], "count", what);
        }
        // 400 of them
        again();
        for (int i = 1; i <= 400; i++) {
            due(-3, "undo");
        }
        due(400, "count", 9);
    }

    private static void statusCalls() {
        edge("43", "What the latest call of spark, person, knows, terms, row, law, orders, force, "
                + "call, wet, walk, pass, "
                + "undo, answer, nights, image, back was REFUSED by;");
        Call[] wrong = {new Call("spark", 12, 0, 5), new Call("spark", 3, 5, 5), new Call("person", 12, 9),
            new Call("person", 3, 5), new Call("knows", 0, 64), new Call("knows", 2, 0), new Call("terms", 4, 0),
            new Call("law"), new Call("orders"), new Call("row"), new Call("force", 1), new Call("call", 2, 0),
            new Call("call", 1, 0), new Call("wet", 25), new Call("wet", 3), new Call("walk", 0, 0),
            new Call("walk", 2, 1), new Call("walk", 1, 2), new Call("pass"), new Call("undo"),
            new Call("answer", 0, 2), new Call("answer", 2, 0), new Call("nights", 0, 0), new Call("image", 2),
            new Call("back", 2), new Call("back", 1)};
        int[] reasons = {-1, -3, -1, -3, -1, -2, -1, -6, -6, -6, -2, -2, -3, -1, -3, -1, -2, -3, -3, -3, -1, -2, -1, -1,
            -1, -2};
        for (int i = 0; i < wrong.length; i++) {
            again();
            busy();
            go("terms", 0, 999);
            go("end", 0);
            due(reasons[i], wrong[i].name, wrong[i].args);
            due(reasons[i], "status");
            // the others leave it
            go("of", 9, 9);
            go("feed", 0, 0, 0, 0, 0);
            go("end", 99);
            go("end", 0);
            go("where", 0, 99);
            go("forget");
            go("count", 99);
            go("status");
            idle(reasons[i], "status");
        }

        edge("43", "0 if it was not, or ahead of any.");
        idle(0, "status");
        Call[] taken = {new Call("spark", 12, 5, 5), new Call("person", 12, 5), new Call("knows", 0, 1),
            new Call("terms", 2, 1), new Call("force", NONE), new Call("call", 0, 0), new Call("wet", 2),
            new Call("walk", 0, 1), new Call("pass"), new Call("undo"), new Call("answer", 0, 1),
            new Call("nights", 0, 1), new Call("image", 0), new Call("back", 0)};
        for (Call call : taken) {
            due(-1, "image", 2);
            due(-1, "status");
            go(call.name, call.args);
            idle(0, "status");
        }
        for (String reader : new String[] {"row", "law", "orders"}) {
            tape(reader.equals("law") ? "bars" : "pass");
            due(-1, "image", 2);
            go(reader);
            idle(0, "status");
        }
    }
}
