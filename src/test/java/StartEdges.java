import java.lang.reflect.Field;
import java.lang.reflect.Member;
import java.lang.reflect.Method;
import java.lang.reflect.Modifier;
import java.util.List;
import java.util.Random;
import java.util.Set;
import java.util.TreeSet;
import java.util.regex.Matcher;
import java.util.regex.Pattern;

/** What the document says ahead of its Terms: what the class is, for how many calls, and its public face. */
final class StartEdges extends Edges {
    private static final String WHAT = "What it is";
    private static final Pattern METHOD = Pattern.compile("public (int|long) (\\w+)\\((.*)\\);");
    private static final Pattern CONSTANT = Pattern.compile("public static final int (\\w+) = (-?\\d+);");
    private static final String[] NAMES = {"spark", "of", "person", "at", "knows", "asks", "floor", "terms", "feed",
        "end", "row", "ash", "law", "orders", "fault", "stopped", "force", "call", "wet", "walk", "pass", "undo",
        "where", "first", "chain", "answer", "forget", "which", "let", "alike", "anew", "guard", "lessons", "drift",
        "sodden", "hot", "nights", "drawn", "image", "back", "count", "status"};

    private StartEdges() {
    }

    static void run() {
        roomAndPeople();
        languages();
        deeds();
        questions();
        undoneAndBack();
        allCalls();
        laterCalls();
        publicFace();
    }

    private static void roomAndPeople() {
        edge(WHAT, "Sparks that are christened so that they will answer: a room of cells, sparks with heat and names "
                + "that go about by themselves, people who know some of them by name and call them;");
        due(0, "spark", 7, 3, 12);
        due(1, "spark", 8, 9, 47);
        due(7, "of", 0, 0);
        due(3, "of", 0, 1);
        due(12, "of", 0, 2);
        due(0, "person", 22, 8);
        due(0, "knows", 0, 1);
        // in MINUTE 0 SPARK 0 stays and SPARK 1 goes up, in MINUTE 1 they go up and right
        due(1, "pass");
        due(7, "of", 0, 0);
        due(13, "of", 1, 0);
        due(2, "pass");
        due(12, "of", 0, 0);
        due(14, "of", 1, 0);
        due(2, "call", 0, 0);
        due(22, "of", 0, 0);
        due(-3, "call", 1, 0);
        due(14, "of", 1, 0);
    }

    private static void languages() {
        edge(WHAT, "laws in a language of where a spark goes, how it burns, whom it does not heed, "
                + "where it may not go;");
        sparks(10);
        people(20, 21);
        rule("goes 2;burns 2;shuns if person=0;bars if x=2");
        due(2, "of", 0, 3);
        due(2, "of", 0, 4);
        due(-3, "call", 0, 0);
        due(1, "pass");
        due(11, "of", 0, 0);
        due(7, "of", 0, 1);
        due(2, "pass");
        due(11, "of", 0, 0);
        due(9, "of", 0, 1);
        due(2, "call", 0, 1);

        edge(WHAT, "orders in a second language that are run wholly or not at all;");
        sparks(12);
        people(11);
        orders(3, "wet 5;pass;call 0 by 0");
        due(1, "floor", 5);
        due(11, "of", 0, 0);
        stops(2, "wet 6;pass;call 0 by 1");
        due(0, "floor", 6);
        due(1, "count", 13);
    }

    private static void deeds() {
        edge(WHAT, "calls, floors wetted, steps, minutes;");
        sparks(12);
        people(10);
        due(2, "call", 0, 0);
        due(10, "of", 0, 0);
        due(0, "wet", 24);
        due(1, "floor", 24);
        due(15, "walk", 0, 1);
        due(15, "at", 0, 0);
        due(1, "pass");
        due(1, "count", 13);
    }

    private static void questions() {
        edge(WHAT, "where sparks will be, which is first on a cell, chains of fewest calls by which one comes home, "
                + "which spark it can be by who was answered, whom to let call next, names that are too alike, the "
                + "fewest to be named anew, the fewest people who guard all though some are away, lessons, how likely "
                + "a spark drifts somewhere, the cell to wet, heat by laws;");
        due(0, "spark", 12, 5, 12);
        due(1, "spark", 24, 5, 17);
        due(2, "spark", 20, 5, 90);
        due(0, "person", 11, 1);
        due(1, "person", 1, 2);
        due(2, "person", 0, 1);
        due(0, "knows", 0, 3);
        due(0, "knows", 1, 5);
        due(0, "knows", 2, 7);
        due(17, "where", 0, 2);
        due(2, "first", 17, 0);
        due(0, "first", 17, 1);
        // SPARK 0 is brought from CELL 12 by 11 and 1 to 0, which is HOME
        due(3, "chain", 0, NONE);
        due(0, "chain", 0, 0);
        due(1, "chain", 0, 1);
        due(2, "chain", 0, 2);
        due(1, "answer", 1, 1);
        due(5, "which");
        due(0, "let", 0);
        due(1, "let", 1);
        due(1, "alike", NONE);
        due(1, "alike", 0);
        due(1, "anew", 0);
        due(1, "anew", 1);
        due(1, "guard", 0, 0);
        due(4, "guard", 0, 1);
        due(3, "guard", 1, 0);
        due(2, "lessons", 3);
        due(600000000000L, "drift", 0, 1, 12);
        due(12, "sodden", 0, 1);
        due(15, "hot", NONE, 3);
        law(0, "burns 1 if spark=0");
        due(18, "hot", 0, 3);
    }

    private static void undoneAndBack() {
        edge(WHAT, "calls undone, nights by draws;");
        sparks(12);
        people(11);
        due(1, "call", 0, 0);
        due(0, "undo");
        due(12, "of", 0, 0);
        // of one SPARK and one PERSON; from the SEED 0 s is 621,889 behind three DRAWS, of 3 that is 1: it WALKS up
        due(0, "nights", 0, 1);
        due(12, "drawn", 0, 0);
        due(16, "drawn", 0, 2);
        due(12, "of", 0, 0);
        due(11, "at", 0, 0);

        edge(WHAT, "all gone back to.");
        sparks(12);
        due(0, "image", 0);
        due(1, "pass");
        due(0, "wet", 3);
        sparks(13);
        due(0, "terms", 2, 4);
        due(0, "back", 0);
        due(1, "count", 0);
        due(0, "count", 13);
        due(0, "count", 15);
        due(0, "floor", 3);
    }

    private static void allCalls() {
        edge(WHAT, "An object is used for at most 512 calls after it has been made;");
        // up to the last one it answers as ever: MINUTES
        for (int i = 1; i <= 512; i++) {
            due(i, "pass");
        }
        // what was undone makes room for more
        again();
        for (int i = 1; i <= 256; i++) {
            due(0, "wet", i % 25);
            due(1, "undo");
        }
        // REFUSED calls are all counted
        again();
        for (int i = 1; i <= 511; i++) {
            due(-2, "back", 0);
        }
        due(511, "count", 8);
        // LAWS: six at a time, each read anew behind back()
        again();
        due(0, "image", 0);
        for (int i = 0; i < 235; i++) {
            go("feed", 0x676f6573, 0x20782a39, 0x2b5b792d, 0x385d2a37, 0x25362b35);
            due(i % 6, "law");
            if (i % 6 == 5) {
                due(0, "back", 0);
            }
        }
        // ORDERS: as many deeds as 512 calls can do
        again();
        due(0, "person", 0, 0);
        for (int i = 1; i <= 127; i++) {
            // walk 0to 1+[done%2]*2 times 20: up and down
            go("feed", 0x77616c6b, 0x2030746f, 0x20312b5b, 0x646f6e65, 0x25325d2a);
            go("feed", 0x32207469, 0x6d657320, 0x32302020, 0x20202020, 0x20202020);
            due(20, "orders");
            due(0, "at", 0, 0);
        }
    }

    /** Nothing is said of what they answer, but rule 7 of LANGUAGE.md holds for them, too: no call ever throws. */
    private static void laterCalls() {
        edge(WHAT, "what later calls answer is free.");
        Random random = new Random(512);
        NamedSparks object = new NamedSparks();
        for (int i = 0; i < 20000; i++) {
            int[] a = new int[5];
            for (int k = 0; k < a.length; k++) {
                a[k] = random.nextInt(4) == 0 ? random.nextInt() : random.nextInt(8) - 1;
            }
            String name = NAMES[random.nextInt(NAMES.length)];
            try {
                Face.ask(object, name, a);
            } catch (RuntimeException e) {
                fail("call " + i + ", " + Face.shown(name, a) + ", throws " + e);
            }
        }
    }

    private static void publicFace() {
        List<String> face = face();
        Set<String> told = new TreeSet<>();
        for (String declared : face) {
            edge("The public face", declared);
            Matcher method = METHOD.matcher(declared);
            Matcher constant = CONSTANT.matcher(declared);
            if (method.matches()) {
                told.add(method.group(2));
                judgeMethod(method.group(1), method.group(2), method.group(3));
            } else if (constant.matches()) {
                told.add(constant.group(1));
                judgeConstant(constant.group(1), Integer.parseInt(constant.group(2)));
            } else if (declared.equals("public final class NamedSparks {")) {
                int flags = NamedSparks.class.getModifiers();
                judge(Modifier.isPublic(flags) && Modifier.isFinal(flags));
                judge(NamedSparks.class.getSuperclass() == Object.class);
                judge(NamedSparks.class.getPackageName().isEmpty());
            } else {
                judge(declared.equals("public NamedSparks();") && NamedSparks.class.getConstructors().length == 1
                        && NamedSparks.class.getConstructors()[0].getParameterCount() == 0);
            }
        }
        if (!face.isEmpty()) {
            judgeRest(told);
        }
    }

    private static void judge(boolean fine) {
        if (!fine) {
            fail("it is not so");
        }
    }

    private static void judgeMethod(String type, String name, String arguments) {
        int count = arguments.isEmpty() ? 0 : arguments.split(", ").length;
        Class<?>[] types = new Class<?>[count];
        for (int i = 0; i < count; i++) {
            judge(arguments.split(", ")[i].matches("int \\w+"));
            types[i] = int.class;
        }
        try {
            Method method = NamedSparks.class.getDeclaredMethod(name, types);
            judge(method.getReturnType() == (type.equals("long") ? long.class : int.class));
            judge(method.getModifiers() == Modifier.PUBLIC && method.getExceptionTypes().length == 0);
        } catch (NoSuchMethodException e) {
            fail("there is none");
        }
    }

    private static void judgeConstant(String name, int value) {
        try {
            Field field = NamedSparks.class.getDeclaredField(name);
            judge(field.getType() == int.class && field.getInt(null) == value);
            judge(field.getModifiers() == (Modifier.PUBLIC | Modifier.STATIC | Modifier.FINAL));
        } catch (ReflectiveOperationException e) {
            fail("there is none");
        }
    }

    /** Nothing else is for others to use, and of each name there is one. */
    private static void judgeRest(Set<String> told) {
        for (Member[] members : new Member[][] {NamedSparks.class.getDeclaredMethods(),
            NamedSparks.class.getDeclaredFields()}) {
            for (Member member : members) {
                boolean seen = !Modifier.isPrivate(member.getModifiers()) && !member.isSynthetic();
                if (seen && !told.remove(member.getName())) {
                    fail(member.getName() + " is not in the document");
                }
            }
        }
        if (!told.isEmpty()) {
            fail("there are no " + told);
        }
    }
}
