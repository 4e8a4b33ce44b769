import java.io.IOException;
import java.lang.management.ManagementFactory;
import java.lang.reflect.Field;
import java.lang.reflect.Method;
import java.lang.reflect.Modifier;
import java.nio.file.Files;
import java.nio.file.Path;
import java.util.ArrayList;
import java.util.Arrays;
import java.util.HashSet;
import java.util.List;
import java.util.Set;
import java.util.TreeSet;
import java.util.regex.Matcher;
import java.util.regex.Pattern;

/** The document's face, and the rules of LANGUAGE.md that can be seen from the class and its text. */
public final class LanguageTest {
    private static final String FACE = "int spark 3, int of 2, int person 2, int at 2, int knows 2, int asks 3, "
            + "int floor 1, int terms 2, int feed 5, int end 1, int row 0, int ash 0, int law 0, int orders 0, "
            + "int fault 0, int stopped 0, int force 1, int call 2, int wet 1, int walk 2, int pass 0, int undo 0, "
            + "int where 2, int first 2, int chain 2, int answer 2, int forget 0, int which 0, int let 1, "
            + "int alike 1, int anew 1, int guard 2, int lessons 1, long drift 3, int sodden 2, int hot 2, "
            + "int nights 2, int drawn 2, int image 1, int back 1, int count 1, int status 0";
    private static final Set<String> LIBRARY = new HashSet<>(Arrays.asList("Arrays.fill", "Arrays.copyOf",
            "Integer.bitCount", "Math.max", "Math.min", "System.arraycopy"));

    private static final Path CLASS = Path.of("src/main/java/NamedSparks.java");
    /** A run may make 7,300,000 fields and elements, of four bytes at least; a tenth of that leaves room. */
    private static final long MOST_BYTES = 4L * 7300000 / 10;

    private static int wrong = 0;

    private LanguageTest() {
    }

    public static void main(String[] args) throws IOException {
        face();
        for (Class<?> inside : NamedSparks.class.getDeclaredClasses()) {
            check(Modifier.isStatic(inside.getModifiers()) && !Modifier.isPublic(inside.getModifiers()),
                    inside + " is static and not public");
            members(inside);
        }
        members(NamedSparks.class);
        text(withoutComments(Files.readString(CLASS)));
        for (String broken : new Source(CLASS).broken()) {
            check(false, broken);
        }
        littleIsMade();
        System.out.println(wrong == 0 ? "the rules are kept" : wrong + " rules are not kept");
        if (wrong != 0) {
            System.exit(1);
        }
    }

    private static void check(boolean fine, String what) {
        if (!fine) {
            wrong++;
            System.out.println("not so: " + what);
        }
    }

    private static void face() {
        Set<String> due = new TreeSet<>(Arrays.asList(FACE.split(", ")));
        Set<String> there = new TreeSet<>();
        for (Method m : NamedSparks.class.getDeclaredMethods()) {
            if (!Modifier.isPrivate(m.getModifiers()) && !m.isSynthetic()) {
                check(Modifier.isPublic(m.getModifiers()) && !Modifier.isStatic(m.getModifiers()), m + " is public");
                there.add(m.getReturnType() + " " + m.getName() + " " + m.getParameterCount());
            }
        }
        check(due.equals(there), "the face is the document's: " + there);
        check(Modifier.isFinal(NamedSparks.class.getModifiers()), "the class is final");
        check(NamedSparks.class.getConstructors().length == 1
                && NamedSparks.class.getDeclaredConstructors().length == 1, "one constructor");
        check(NamedSparks.NONE == -1 && NamedSparks.NOTHING == -100, "the constants");
        List<String> fields = new ArrayList<>();
        for (Field f : NamedSparks.class.getDeclaredFields()) {
            if (!Modifier.isPrivate(f.getModifiers())) {
                fields.add(f.getName());
            }
        }
        check(fields.equals(Arrays.asList("NONE", "NOTHING")), "no other constants: " + fields);
        check(NamedSparks.class.getDeclaredClasses().length <= 12, "some twelve classes");
    }

    private static void members(Class<?> of) {
        Set<String> publics = new HashSet<>();
        for (String method : FACE.split(", ")) {
            publics.add(method.split(" ")[1]);
        }
        for (Method m : of.getDeclaredMethods()) {
            check(m.getParameterCount() <= 7, m + " has at most seven parameters");
            check(of == NamedSparks.class && Modifier.isPublic(m.getModifiers()) || !publics.contains(m.getName()),
                    m + " does not bear a public method's name");
        }
        int held = 0;
        for (Field f : of.getDeclaredFields()) {
            if (Modifier.isStatic(f.getModifiers())) {
                check(Modifier.isFinal(f.getModifiers()), f + " is final");
            } else {
                held++;
            }
        }
        check(held <= 20, of + " has some twenty fields: " + held);
    }

    /** Rule 12: what the dearest run makes: 512 calls of which as many as can be keep a new LAW. */
    private static void littleIsMade() {
        com.sun.management.ThreadMXBean threads =
                (com.sun.management.ThreadMXBean) ManagementFactory.getThreadMXBean();
        long before = threads.getThreadAllocatedBytes(Thread.currentThread().getId());
        NamedSparks x = new NamedSparks();
        x.image(0);
        for (int made = 0; made < 235; made++) {
            // goes x*9+[y-8]*7%6+5
            x.feed(0x676f6573, 0x20782a39, 0x2b5b792d, 0x385d2a37, 0x25362b35);
            check(x.law() == made % 6, "LAW " + made % 6 + " is kept");
            if (made % 6 == 5) {
                x.back(0);
            }
        }
        long made = threads.getThreadAllocatedBytes(Thread.currentThread().getId()) - before;
        check(made < MOST_BYTES, "a run makes " + made + " bytes");
    }

    private static String withoutComments(String text) {
        return text.replaceAll("(?s)/\\*.*?\\*/", "").replaceAll("//[^\n]*", "");
    }

    private static void text(String text) {
        String[] words = {"throw", "throws", "try", "catch", "finally", "synchronized", "assert", "yield", "volatile",
            "transient", "native", "hashCode", "toString", "equals", "Object", "Random", "Thread"};
        for (String word : words) {
            check(!Pattern.compile("\\b" + word + "\\b").matcher(text).find(), "no " + word);
        }
        check(!text.contains("->") && !text.contains("::"), "no lambda, no method reference");
        check(!Pattern.compile("\\w+Exact\\b").matcher(text).find(), "nothing that ends in Exact");
        check(text.chars().allMatch(c -> c < 128), "only signs to 127");
        check(text.split("\\bimport ").length == 2 && text.contains("import java.util.Arrays;"), "one import");
        Matcher used = Pattern.compile("\\b(Arrays|Integer|Long|Math|System|List|ArrayList)\\.\\w+").matcher(
                text.replace("import java.util.Arrays;", ""));
        while (used.find()) {
            check(LIBRARY.contains(used.group()), used.group() + " is of the library that is used");
        }
        lengths(text);
    }

    /** No method has many more than sixty lines: they begin and end with lines indented alike. */
    private static void lengths(String text) {
        String[] lines = text.split("\n");
        for (String indent : new String[] {"    ", "        "}) {
            int start = -1;
            for (int i = 0; i < lines.length; i++) {
                if (lines[i].startsWith(indent) && lines[i].matches(indent + "[a-zA-Z].*\\(.*\\) \\{")) {
                    start = i;
                } else if (lines[i].equals(indent + "}") && start >= 0) {
                    check(i - start <= 60, lines[start].trim() + " has at most sixty lines");
                    start = -1;
                }
            }
        }
    }
}
