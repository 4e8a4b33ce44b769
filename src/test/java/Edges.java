import java.io.IOException;
import java.nio.charset.StandardCharsets;
import java.util.ArrayList;
import java.util.Arrays;
import java.util.List;

/**
 * What the tests of the document's edges are written with. Each begins with edge(), which names where the document
 * says it and the sentence, and has an object of its own. The calls are kept, so that what a call has changed can be
 * told from two other objects: one on which all of them were made again, and one on which all but the last were.
 */
abstract class Edges {
    static final int NONE = -1;
    static final int NOTHING = -100;
    static final int LOW = Integer.MIN_VALUE;
    static final int HIGH = Integer.MAX_VALUE;
    /** An object is meant for so many calls. */
    private static final int MOST_CALLS = 512;

    private static final List<Call> LOG = new ArrayList<>();
    private static Document document;
    private static NamedSparks x;
    private static String about = "";
    private static String judged = "";
    private static int asked;
    private static int edges;
    private static int wrong;

    /** One call. */
    static final class Call {
        final String name;
        final int[] args;

        Call(String name, int... args) {
            this.name = name;
            this.args = args;
        }

        long on(NamedSparks object) {
            return Face.ask(object, name, args);
        }

        @Override
        public String toString() {
            return Face.shown(name, args);
        }
    }

    static void open() throws IOException {
        document = new Document();
    }

    /** Whether all was as due, and every sentence has its test. */
    static boolean close() {
        wrong += document.unnamed();
        System.out.println(edges + " edges, " + asked + " answers: "
                + (wrong == 0 ? "all are as due" : wrong + " are not as due"));
        return wrong == 0;
    }

    /**
     * A new object; where: "What it is", "The public face", "I" to "IV", "constants" or a promise's number, behind a
     * colon the promises it is of.
     */
    static void edge(String where, String sentence) {
        String part = where.matches("\\d.*") ? "Promise " : where.matches("[A-Z][a-z].*") ? "" : "Terms ";
        about = part + where + ", \"" + sentence + "\"";
        edges++;
        if (!document.name(where.split(":")[0], sentence)) {
            fail("the document does not say so there");
        }
        again();
    }

    static List<String> face() {
        return document.face();
    }

    /** A new object for the same sentence. */
    static void again() {
        x = new NamedSparks();
        LOG.clear();
    }

    static void fail(String what) {
        wrong++;
        System.out.println(about + ": " + what);
    }

    static long go(String name, int... a) {
        Call call = new Call(name, a);
        LOG.add(call);
        if (LOG.size() > MOST_CALLS) {
            fail("more calls than an object is meant for");
        }
        return call.on(x);
    }

    static void due(long want, String name, int... a) {
        asked++;
        long got = go(name, a);
        if (got != want) {
            fail(Face.shown(name, a) + " answered " + got + ", due is " + want);
        }
    }

    // ---- what a call changes ----

    /** The call is REFUSED by that, status() and count() tell it, and nothing else is changed. */
    static void refused(int reason, String name, int... a) {
        List<Call> without = new ArrayList<>(LOG);
        judged = Face.shown(name, a);
        due(reason, name, a);
        counted(reason, without);
        same(without, true, true);
    }

    /** law(), orders() REFUSED: the TAPE is empty then; FAULT, and where ORDERS stopped, are as told. */
    static void refusedText(int reason, int fault, int stopped, String name) {
        List<Call> without = new ArrayList<>(LOG);
        judged = Face.shown(name);
        due(reason, name);
        due(fault, "fault");
        due(stopped, "stopped");
        due(0, "count", 6);
        without.add(new Call("end", 0));
        counted(reason, without);
        same(without, false, name.equals("law"));
    }

    /** The call answers that, is not REFUSED and changes nothing, the latest REFUSED call included. */
    static void idle(long want, String name, int... a) {
        List<Call> without = new ArrayList<>(LOG);
        judged = Face.shown(name, a);
        due(want, name, a);
        same(without, true, true);
        for (int what = 7; what <= 11; what++) {
            compare(without, Arrays.asList(new Call("count", what), new Call("status")));
        }
    }

    private static void counted(int reason, List<Call> without) {
        int[] reasons = {-1, -2, -3, -5, -6};
        for (int i = 0; i < reasons.length; i++) {
            Call count = new Call("count", 7 + i);
            long due = count.on(replayed(without)) + (reasons[i] == reason ? 1 : 0);
            long got = count.on(replayed(LOG));
            if (got != due) {
                fail(judged + " was REFUSED, " + count + " answers " + got + ", due is " + due);
            }
        }
        long status = replayed(LOG).status();
        if (status != reason) {
            fail(judged + " was REFUSED, status() answers " + status + ", due is " + reason);
        }
    }

    private static NamedSparks replayed(List<Call> calls) {
        NamedSparks object = new NamedSparks();
        for (Call call : calls) {
            call.on(object);
        }
        return object;
    }

    /** All that can be seen is the same as without the last call: now, undone, gone back to, by the TAPE. */
    private static void same(List<Call> without, boolean fault, boolean stopped) {
        List<Call> room = lookAround();
        if (fault) {
            room.add(new Call("fault"));
        }
        if (stopped) {
            room.add(new Call("stopped"));
        }
        compare(without, room);
        compare(without, lookAtLaws());
        for (int n = 1; n <= 17; n++) {
            List<Call> undone = new ArrayList<>();
            for (int i = 0; i < n; i++) {
                undone.add(new Call("undo"));
            }
            undone.addAll(room);
            compare(without, undone);
        }
        for (int k = 0; k <= 1; k++) {
            List<Call> back = new ArrayList<>();
            back.add(new Call("back", k));
            back.addAll(room);
            compare(without, back);
            back = new ArrayList<>();
            back.add(new Call("back", k));
            back.addAll(lookAtLaws());
            compare(without, back);
        }
        for (String reader : new String[] {"row", "law", "orders"}) {
            List<Call> read = new ArrayList<>();
            read.add(new Call(reader));
            read.addAll(room);
            // orders() always reads a TEXT
            if (fault || reader.equals("orders")) {
                read.add(new Call("fault"));
            }
            compare(without, read);
        }
    }

    private static void compare(List<Call> without, List<Call> looks) {
        if (LOG.size() + looks.size() > MOST_CALLS) {
            fail("more calls than an object is meant for");
        }
        NamedSparks with = replayed(LOG);
        NamedSparks other = replayed(without);
        for (int i = 0; i < looks.size(); i++) {
            long got = looks.get(i).on(with);
            long due = looks.get(i).on(other);
            if (got != due) {
                fail(judged + " has changed something: behind it " + looks.subList(Math.max(0, i - 3), i + 1)
                        + " answers " + got + ", without it " + due);
                return;
            }
        }
    }

    private static List<Call> lookAround() {
        List<Call> all = new ArrayList<>();
        for (int what = 0; what <= 16; what++) {
            if (what < 7 || what > 11) {
                all.add(new Call("count", what));
            }
        }
        for (int cell = 0; cell < 25; cell++) {
            all.add(new Call("floor", cell));
        }
        for (int k = 0; k < 6; k++) {
            for (int what = 0; what <= 5; what++) {
                all.add(new Call("of", k, what));
            }
            for (int what = 0; what <= 2; what++) {
                all.add(new Call("at", k, what));
                all.add(new Call("drawn", k, what));
            }
        }
        all.add(new Call("ash"));
        all.add(new Call("which"));
        all.add(new Call("let", 0));
        return all;
    }

    private static List<Call> lookAtLaws() {
        List<Call> all = new ArrayList<>();
        for (int law = NONE; law < 6; law++) {
            all.add(new Call("hot", law, 2));
            all.add(new Call("force", law));
            for (int k = 0; k < 6; k++) {
                all.add(new Call("of", k, 3));
                all.add(new Call("of", k, 4));
                all.add(new Call("asks", k, 0, 1));
                all.add(new Call("asks", k, 1, 1));
                all.add(new Call("where", k, 2));
            }
        }
        return all;
    }

    // ---- rows of calls that many edges need ----

    /** Puts a TEXT on the TAPE, and it alone. */
    static void tape(String text) {
        tape(text.getBytes(StandardCharsets.ISO_8859_1));
    }

    static void tape(byte[] bytes) {
        go("end", 0);
        for (int i = 0; i < bytes.length; i += 20) {
            int[] five = new int[5];
            for (int j = 0; j < 20; j++) {
                int b = i + j < bytes.length ? bytes[i + j] & 255 : 32;
                five[j / 4] = five[j / 4] << 8 | b;
            }
            go("feed", five);
        }
        due(bytes.length, "end", bytes.length);
    }

    /** A ROW of these bytes. */
    static void row(int told, int ash, int... values) {
        byte[] bytes = new byte[values.length];
        for (int i = 0; i < values.length; i++) {
            bytes[i] = (byte) values[i];
        }
        tape(bytes);
        due(told, "row");
        due(ash, "ash");
    }

    static void law(int want, String text) {
        tape(text);
        due(want, "law");
        due(NONE, "fault");
    }

    /** The TEXT becomes a LAW and is in FORCE. */
    static void rule(String text) {
        int number = (int) go("count", 4);
        law(number, text);
        go("force", number);
    }

    static void orders(int want, String text) {
        tape(text);
        due(want, "orders");
        due(NONE, "fault");
        due(NONE, "stopped");
    }

    /** ORDERS that can't be, at that CLAUSE. */
    static void stops(int clause, String text) {
        tape(text);
        refusedText(-3, NONE, clause, "orders");
    }

    /** The TEXT is no LAW, with the FAULT there. */
    static void noLaw(int fault, String text) {
        tape(text);
        int stopped = (int) go("stopped");
        refusedText(-6, fault, stopped, "law");
    }

    static void noOrders(int fault, String text) {
        tape(text);
        refusedText(-6, fault, NONE, "orders");
    }

    static String repeated(String what, String between, int n) {
        StringBuilder all = new StringBuilder();
        for (int i = 0; i < n; i++) {
            all.append(i == 0 ? "" : between).append(what);
        }
        return all.toString();
    }

    /** SPARKS in these CELLS, with HEAT 5, and NAMES that are not ALIKE. */
    static void sparks(int... cells) {
        for (int cell : cells) {
            int number = (int) go("count", 0);
            due(number, "spark", cell, 5, 11 * number);
        }
    }

    /** PEOPLE in these CELLS, who reach all and KNOW all. */
    static void people(int... cells) {
        for (int cell : cells) {
            int number = (int) go("count", 2);
            due(number, "person", cell, 8);
            due(0, "knows", number, 63);
        }
    }

    /**
     * A room in which there is something of all that a call could spoil: a wall (CELL 3), paper (4), a wet CELL (7),
     * two SPARKS and two PEOPLE, a LAW in FORCE, an ANSWER, IMAGE 0, NIGHTS, four deeds that can be undone, ASH,
     * a FAULT, ORDERS that stopped, and bytes on the TAPE.
     */
    static void busy() {
        row(3, 1, 3, 3, 4, 2, 7, 1, 25);
        go("spark", 12, 5, 34);
        go("spark", 18, 9, 31);
        go("person", 11, 2);
        go("person", 24, 8);
        go("knows", 0, 1);
        go("knows", 1, 3);
        rule("goes 2;burns 0-1 if x=3;shuns if person=1 and spark=0;bars if x=4");
        go("answer", 1, 1);
        due(0, "image", 0);
        go("nights", 5, 3);
        due(1, "call", 0, 0);
        due(0, "wet", 20);
        due(19, "walk", 1, 3);
        due(1, "pass");
        tape("pass;wet 3");
        due(-3, "orders");
        tape("goes");
        due(-6, "law");
        go("feed", 0x05021803, 0x70617373, 0x20202020, 0x62617273, 0x3b3b3b3b);
        due(4, "count", 5);
    }
}
