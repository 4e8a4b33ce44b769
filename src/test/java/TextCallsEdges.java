/** Promises 10 to 18: the TAPE, ROWS, LAWS and ORDERS. */
final class TextCallsEdges extends Edges {
    private TextCallsEdges() {
    }

    static void run() {
        feedCalls();
        endCalls();
        rowCalls();
        ashCalls();
        lawCalls();
        ordersCalls();
        faultCalls();
        stoppedCalls();
        forceCalls();
    }

    private static void feedCalls() {
        edge("10", "Twenty bytes come behind the TAPE, four of each number, the highest first: how many it has.");
        // 0x80 and above: the number is below 0, its bytes are not
        due(20, "feed", 0x00011801, 0x02031603, 0x80000001, 0xffffffff, 0x0500ff02);
        due(40, "feed", 0x06010702, 0x08030900, 0x0a010b02, 0x0c030d00, 0x0e010f02);
        due(40, "count", 6);
        due(0, "status");
        // 0 1, 24 1, 2 3, 22 3, (128 0), 0 1, (255 255) twice, 5 0, (255 2), then ten
        due(16, "row");
        due(4, "ash");
        int[] kinds = {1, 0, 3, 0, 0, 0, 1, 2, 3, 0, 1, 2, 3, 0, 1, 2, 0, 0, 0, 0, 0, 0, 3, 0, 1};
        for (int cell = 0; cell < 25; cell++) {
            due(kinds[cell], "floor", cell);
        }

        edge("10", "NONE, if there would be more than 400.");
        for (int i = 1; i <= 20; i++) {
            due(20 * i, "feed", i, i, i, i, i);
        }
        idle(NONE, "feed", 1, 2, 3, 4, 5);
        due(399, "end", 399);
        idle(NONE, "feed", 1, 2, 3, 4, 5);
        due(381, "end", 381);
        idle(NONE, "feed", 1, 2, 3, 4, 5);
        due(381, "count", 6);
        due(380, "end", 380);
        due(400, "feed", 1, 2, 3, 4, 5);
        idle(NONE, "feed", 1, 2, 3, 4, 5);
        due(0, "status");
        due(1, "end", 1);
        due(21, "feed", 1, 2, 3, 4, 5);
    }

    private static void endCalls() {
        edge("11", "The TAPE has its first n bytes alone: n.");
        go("feed", 0x01010202, 0x03030400, 0, 0, 0);
        due(20, "end", 20);
        due(20, "count", 6);
        due(6, "end", 6);
        due(6, "end", 6);
        due(6, "count", 6);
        // what is fed then comes behind these
        due(26, "feed", 0x04010502, 0, 0, 0, 0);
        due(10, "end", 10);
        due(5, "row");
        due(1, "floor", 1);
        due(2, "floor", 2);
        due(3, "floor", 3);
        due(1, "floor", 4);
        due(2, "floor", 5);
        go("feed", 0, 0, 0, 0, 0);
        due(0, "end", 0);
        due(0, "count", 6);
        due(0, "end", 0);
        refused(-6, "row");

        edge("11", "NONE, if it has not so many, or n is below 0.");
        idle(NONE, "end", 1);
        idle(NONE, "end", -1);
        busy();
        due(20, "count", 6);
        idle(NONE, "end", 21);
        idle(NONE, "end", -1);
        idle(NONE, "end", LOW);
        idle(NONE, "end", HIGH);
        due(19, "end", 19);
        idle(NONE, "end", 20);
        due(0, "end", 0);
        idle(NONE, "end", 1);
    }

    private static void rowCalls() {
        edge("12", "A ROW, the TAPE is empty then: how many CELLS were told.");
        row(0, 1, 1);
        row(1, 0, 0, 1);
        row(1, 1, 0, 1, 0);
        row(0, 1, 25, 0);
        row(0, 1, 0, 4);
        row(2, 0, 24, 3, 24, 2);
        due(2, "floor", 24);
        due(0, "count", 6);
        due(0, "status");
        // what stands there stays there
        sparks(12);
        people(13);
        row(2, 0, 12, 3, 13, 3);
        due(12, "of", 0, 0);
        due(13, "at", 0, 0);

        edge("12", "-6 the TAPE is empty.");
        refused(-6, "row");
        busy();
        due(0, "end", 0);
        refused(-6, "row");
        refused(-6, "row");
        due(1, "ash");
        due(4, "count", 5);
    }

    private static void ashCalls() {
        edge("13", "How many times there was ASH in the latest row() that was not REFUSED (0 ahead of any).");
        idle(0, "ash");
        refused(-6, "row");
        idle(0, "ash");
        row(0, 3, 25, 0, 0, 4, 9);
        refused(-6, "row");
        idle(3, "ash");
        row(1, 0, 9, 0);
        row(1, 1, 9, 0, 9);
        // all that the TAPE holds
        int[] none = new int[399];
        java.util.Arrays.fill(none, 255);
        row(0, 200, none);
    }

    private static void lawCalls() {
        edge("14", "The TAPE, which is empty then, becomes a LAW: its number.");
        for (int i = 0; i < 6; i++) {
            due(i, "count", 4);
            tape("goes " + i % 5 + "     ");
            due(i, "law");
            due(0, "status");
            due(0, "count", 6);
            due(NONE, "count", 12);
        }
        due(6, "count", 4);

        edge("14", "-5 (ahead of reading it; the TAPE is empty then, too);");
        busy();
        for (int i = 1; i < 6; i++) {
            law(i, "bars");
        }
        tape("bars");
        refusedText(-5, NONE, 1, "law");
        tape("no LAW");
        refusedText(-5, NONE, 1, "law");
        refusedText(-5, NONE, 1, "law");
        tape("bars ~");
        due(-6, "orders");
        due(0, "fault");
        tape("bars");
        refusedText(-5, 0, NONE, "law");
        // an IMAGE of a room with fewer makes room
        due(0, "back", 0);
        law(1, "bars");

        edge("14", "-6 (blanks alone: FAULT at the end).");
        busy();
        noLaw(0, "");
        noLaw(1, " ");
        noLaw(20, repeated(" ", "", 20));
        noLaw(400, repeated(" ", "", 400));
        noLaw(5, "bars ~");
        law(1, "bars");
    }

    private static void ordersCalls() {
        edge("15", "ORDERS, the TAPE is empty then: how many were run.");
        orders(0, "pass if 1=2");
        orders(1, "pass");
        orders(12, repeated("pass", ";", 12));
        orders(240, repeated("pass times 20", ";", 12));
        due(0, "count", 6);
        due(0, "status");
        due(253, "count", 13);
        due(16, "count", 5);

        edge("15", "-3 one can't be;");
        busy();
        stops(0, "wet 3");
        stops(2, "pass;pass;wet 3");
        // 16 can be undone, and still can
        for (int i = 0; i < 12; i++) {
            due(i + 2, "pass");
        }
        due(16, "count", 5);
        stops(1, "pass times 20;wet 3");
        due(16, "count", 5);

        edge("15", "-6 (as for law()).");
        busy();
        noOrders(0, "");
        noOrders(1, " ");
        noOrders(400, repeated(" ", "", 400));
        noOrders(5, "pass ~");
        noOrders(8, "pass;wet");
        noOrders(9, "wet 1;wet");
        orders(1, "pass");
    }

    private static void faultCalls() {
        edge("16", "FAULT of the latest law(), orders() that read a TEXT: its place; NONE without.");
        idle(NONE, "fault");
        noLaw(0, "");
        idle(0, "fault");
        law(0, "bars");
        idle(NONE, "fault");
        noOrders(5, "pass pass");
        idle(5, "fault");
        tape("wet 25");
        due(-3, "orders");
        idle(NONE, "fault");
        noLaw(400, "bars;" + repeated(" ", "", 395));
        noOrders(399, repeated(" ", "", 399) + "~");
        idle(399, "fault");
        // row() and a law() for which there is no room read no TEXT
        row(0, 1, 99, 99);
        idle(399, "fault");
        go("pass");
        idle(399, "fault");
        for (int i = 1; i < 6; i++) {
            law(i, "bars");
        }
        noOrders(0, "no");
        tape("bars bars");
        due(-5, "law");
        idle(0, "fault");
    }

    private static void stoppedCalls() {
        edge("17", "Which CLAUSE of the latest orders() could not be.");
        stops(0, "wet 25");
        idle(0, "stopped");
        stops(11, repeated("pass", ";", 11) + ";wet 25");
        idle(11, "stopped");
        stops(1, "wet done times 3;wet done-1");
        stops(0, "wet 0 times 2");
        // other calls leave it
        law(0, "bars");
        row(0, 1, 99, 99);
        due(1, "pass");
        idle(0, "stopped");

        edge("17", "NONE.");
        idle(NONE, "stopped");
        stops(0, "wet 25");
        orders(1, "pass");
        idle(NONE, "stopped");
        stops(0, "wet 25");
        orders(0, "wet 25 if 1=2");
        idle(NONE, "stopped");
        stops(0, "wet 25");
        noOrders(0, "no");
        idle(NONE, "stopped");
    }

    private static void forceCalls() {
        edge("18", "A LAW is in FORCE (NONE: none): which was.");
        due(NONE, "force", NONE);
        due(0, "status");
        for (int i = 0; i < 6; i++) {
            law(i, "goes " + i % 5);
        }
        due(NONE, "force", 0);
        due(0, "force", 5);
        due(5, "force", 5);
        due(5, "count", 12);
        due(5, "force", NONE);
        due(NONE, "count", 12);
        due(0, "status");
        // it does not stand in the way of undoing, and is not undone
        due(1, "pass");
        due(NONE, "force", 3);
        due(3, "undo");
        due(3, "count", 12);

        edge("18", "-2.");
        refused(-2, "force", 0);
        busy();
        refused(-2, "force", 1);
        refused(-2, "force", -2);
        refused(-2, "force", 6);
        refused(-2, "force", LOW);
        refused(-2, "force", HIGH);
        due(0, "force", NONE);
    }
}
