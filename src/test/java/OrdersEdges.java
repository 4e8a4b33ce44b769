/** Terms II: the bounds of ORDERS. */
final class OrdersEdges extends Edges {
    private OrdersEdges() {
    }

    static void run() {
        clauses();
        meanings();
        times();
        words();
        partsAside();
        runs();
        doneAndLatest();
        looseHeatCell();
        stopping();
    }

    private static void clauses() {
        edge("II: 15", "ORDERS: CLAUSE: (\"call\" SUM \"by\" SUM | \"wet\" SUM | \"walk\" SUM \"to\" SUM | \"pass\") "
                + "[\"times\" TIMES] [\"if\" TEST].");
        sparks(12);
        people(6);
        orders(4, "call 0 by 0;wet 1;walk 0 to 1;pass");
        orders(4, "call 0 by 0 times 1;wet 2 times 1;walk 0 to 2 times 1;pass times 1");
        orders(4, "call 0 by 0 if 1=1;wet 3 if 1=1;walk 0 to 3 if 1=1;pass if 1=1");
        orders(2, "call 0 by 0 times 2 if 1=1");
        again();
        noOrders(4, "call");
        noOrders(6, "call 1");
        noOrders(7, "call 1 to 1");
        noOrders(9, "call 1 by");
        noOrders(3, "wet");
        noOrders(6, "wet 1 by 1");
        noOrders(4, "walk");
        noOrders(7, "walk 1 by 1");
        noOrders(9, "walk 1 to");
        noOrders(5, "pass 1");
        noOrders(14, "pass if 1 = 1 times 2");
        noOrders(0, "goes 1");
        noOrders(0, "times 2");
        noOrders(13, "pass times 2 times 2");
    }

    private static void meanings() {
        edge("II: 15, 19, 20, 21, 22", "(a SPARK, a PERSON; a CELL; a PERSON, a WAY; a MINUTE.)");
        sparks(12, 13);
        people(6, 24);
        orders(1, "call 1 by 0");
        due(6, "of", 1, 0);
        due(12, "of", 0, 0);
        orders(1, "wet 4");
        due(1, "floor", 4);
        orders(1, "walk 1 to 3");
        due(19, "at", 1, 0);
        due(6, "at", 0, 0);
        orders(1, "pass");
        due(1, "count", 13);
    }

    private static void times() {
        edge("II: 15", "TIMES: a NUMBER 1 .. 20.");
        orders(1, "pass times 1");
        orders(20, "pass times 20");
        orders(20, "pass times 0020");
        due(41, "count", 13);
        noOrders(11, "pass times 0");
        noOrders(11, "pass times 00");
        noOrders(11, "pass times 21");
        noOrders(11, "pass times 1000");
        noOrders(11, "pass times 4294967297");
        noOrders(10, "pass times");
        noOrders(11, "pass times if 1=1");
        noOrders(11, "pass times [1]");
        noOrders(11, "pass times minute");
        noOrders(12, "pass times 1+1");
        orders(240, repeated("pass times 20", ";", 12));
    }

    private static void words() {
        edge("II: 15", "Words: \"minute\" | \"done\" | \"latest\" | \"loose\" | \"heat\" S | \"cell\" S "
                + "(S: a NUMBER 0 .. 5).");
        orders(1, "pass if minute=0 and done=0 and latest=0-1 and loose=0 and heat 0=0-1 and cell 5=0-1");
        orders(1, "pass if heat 5=cell 0 and heat0=cell5 and heat 005=0-1");
        again();
        for (String word : new String[] {"heat", "cell"}) {
            noOrders(9, "wet " + word + " 6");
            noOrders(9, "wet " + word + " 10");
            noOrders(9, "wet " + word + " 4294967296");
            noOrders(8, "wet " + word);
            noOrders(9, "wet " + word + " x");
            noOrders(9, "wet " + word + " [1]");
            noOrders(9, "wet " + word + " minute");
            noOrders(8, "wet " + word + "+1");
        }
        again();
        for (String word : new String[] {"spark", "name", "x", "y", "kind", "far", "person", "mood", "dones"}) {
            noOrders(4, "wet " + word);
        }
        noOrders(11, "wet minute 1");
    }

    private static void partsAside() {
        edge("II: 15", "S, TIMES aside, NUMBERS and words count as PARTS.");
        sparks(0);
        // 50 words, each with its S, and TIMES
        orders(1, "wet " + repeated("cell 0", "+", 50) + " times 1");
        noOrders(4 + 7 * 50, "wet " + repeated("cell 0", "+", 51));
        orders(0, "pass times 20 if 1=" + repeated("1", "+", 49));
        noOrders(19 + 2 * 49, "pass times 20 if 1=" + repeated("1", "+", 50));
        stops(0, repeated("wet 0 times 2", ";", 12) + " if " + repeated("1", "+", 37) + "=37");
        noOrders(14 * 12 - 1 + 4 + 2 * 38, repeated("wet 0 times 2", ";", 12) + " if " + repeated("1", "+", 38)
                + "=38");
    }

    private static void runs() {
        edge("II: 15", "Run CLAUSE by CLAUSE, each as often as TIMES tell (once without); each time "
                + "its \"if\" is asked "
                + "(not run, if it is not so or BROKEN), then its SUMS from the left.");
        // each time anew: six CELLS, of which the last is not run
        orders(5, "wet done times 20 if done<5");
        for (int cell = 0; cell < 6; cell++) {
            due(cell < 5 ? 1 : 0, "floor", cell);
        }
        orders(3, "pass times 2;pass");
        orders(0, "pass if 1=2");
        orders(0, "pass if 1/0=1");
        orders(0, "pass if 1000*1000*1000+1>0");
        orders(0, "wet 1/0 if 1=2");
        orders(0, "wet 25 if 1/0=1");
        orders(1, "pass if 1=2;pass;pass if 1/0=1");
        // by turns: not one of both times, as the MINUTE passes in between
        go("terms", 0, 0);
        orders(3, "pass times 20 if minute=done and done<3");
        due(3, "count", 13);
        // "if" ahead of the SUMS, the SUMS ahead of the deed
        again();
        sparks(12);
        people(6);
        orders(2, "call done by done;walk done-1 to done");
        due(11, "at", 0, 0);
    }

    private static void doneAndLatest() {
        edge("II: 15", "done: how many were run in this TEXT, latest: what the latest call in it told (-1: none)");
        sparks(12, 13);
        people(6);
        orders(3, "pass if done=0;pass if done=1;pass if done=1;pass if done=2");
        orders(0, "pass if done>0");
        orders(1, "pass if latest=0-1");
        // 12 to 6 is 2 FAR, 6 to 6 is 0
        again();
        sparks(12, 13);
        people(6);
        orders(2, "call 0 by 0;pass if latest=2");
        go("undo");
        orders(2, "call 0 by 0;wet 3 if latest=0");
        orders(4, "call 1 by 0;wet 5;pass;walk 0 to 1 if latest=3");
        orders(0, "pass if latest>0-1");
        // those that are not run tell nothing
        orders(1, "call 0 by 0 if 1=2;pass if latest=0-1 and done=0");
    }

    private static void looseHeatCell() {
        edge("II: 15", "loose: how many SPARKS are not GONE, heat, cell: -1 without such a SPARK "
                + "(cell: if GONE, too).");
        orders(1, "pass if loose=0 and heat 0=0-1 and cell 0=0-1 and heat 5=0-1 and cell 5=0-1");
        again();
        sparks(24, 1);
        people(0);
        orders(1, "wet 9 if loose=2 and heat 0=5 and cell 0=24 and heat 1=5 and cell 1=1 and heat "
                + "2=0-1 and cell 2=0-1");
        due(8, "call", 0, 0);
        orders(1, "wet 8 if loose=1 and heat 0=0 and cell 0=0-1 and cell 1=1");
        orders(2, "call 1 by 0;wet 7 if loose=0 and heat 1=0 and cell 1=0-1");
        again();
        sparks(0, 24, 0, 24, 0, 24);
        orders(1, "wet 9 if loose=6 and heat 5=5 and cell 5=24 and cell 4=0");
    }

    private static void stopping() {
        edge("II: 15, 17", "One that can't be (a BROKEN SUM, as call(), wet(), walk(), pass() are REFUSED) ends it: "
                + "all is as it was ahead of it.");
        String[] cannotBe = {"wet 1/0", "wet 1000*1000*1000+1", "call 0 by 1/0", "call 1/0 by 0", "walk 0 to 1/0",
            "walk 1/0 to 1", "call 2 by 0", "call 0-1 by 0", "call 0 by 2", "call 0 by 0-1", "call 1 by 0", "wet 25",
            "wet 0-1", "wet 3", "wet 7", "walk 0 to 0", "walk 0 to 5", "walk 2 to 1", "walk 1 to 2"};
        for (String clause : cannotBe) {
            again();
            busy();
            stops(0, clause);
            stops(1, "pass;" + clause + ";pass");
            stops(4, "wet 10;walk 0 to 4;pass times 3;call 1 by 1;" + clause);
        }
        again();
        busy();
        go("terms", 0, 998);
        stops(1, "pass;pass");
        stops(0, "pass times 2");
        orders(1, "pass times 2 if minute<999");
        stops(0, "pass");
        // the last of twelve; more than can be undone ahead of it
        again();
        busy();
        stops(11, repeated("pass times 20", ";", 11) + ";wet 3");
        stops(0, "wet done times 8");
    }
}
