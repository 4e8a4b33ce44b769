import java.io.ByteArrayOutputStream;
import java.io.IOException;
import java.io.PrintStream;
import java.lang.reflect.Method;
import java.lang.reflect.Modifier;
import java.net.URL;
import java.net.URLClassLoader;
import java.nio.charset.StandardCharsets;
import java.nio.file.Files;
import java.nio.file.Path;
import java.util.ArrayList;
import java.util.Comparator;
import java.util.List;
import java.util.regex.Matcher;
import java.util.regex.Pattern;
import java.util.stream.Stream;
import javax.tools.ToolProvider;

/**
 * What README.md shows of the class's use: its program prints what stands there, each of its rows answers as it says,
 * every call is shown, and the commands are those that work here. Public, as the rows are run by another loader.
 */
public final class ReadmeTest {
    private static final Path README = Path.of("README.md");
    /** A row: a call or a variable that is set by one, and behind it the answer. */
    private static final Pattern ROW = Pattern.compile("(?:(?:int|long) (\\w+) = )?(\\S.*);\\s*// (-?\\d+)(?:: .*)?");
    private static final Pattern CALL = Pattern.compile("\\w+\\.\\w+\\(.*");

    private static int wrong = 0;
    private static int asked = 0;

    /** What stands between two fences. */
    private static final class Block {
        final String language;
        final int line;
        final List<String> lines = new ArrayList<>();

        Block(String language, int line) {
            this.language = language;
            this.line = line;
        }

        boolean isProgram() {
            return language.equals("java") && lines.get(0).equals("public final class Example {");
        }
    }

    private ReadmeTest() {
    }

    public static void main(String[] args) throws Exception {
        String text = Files.readString(README);
        List<Block> blocks = blocksOf(text.lines().toList());
        Path out = Files.createTempDirectory("readme");
        try {
            judgeJava(blocks, out);
        } finally {
            removeAll(out);
        }
        judgeFace(blocks, text);
        judgeCommands(blocks);
        judgeTests(text);
        System.out.println(wrong == 0 ? asked + " answers are as the page says" : wrong + " are not as the page says");
        if (wrong != 0) {
            System.exit(1);
        }
    }

    private static void check(boolean fine, String what) {
        if (!fine) {
            wrong++;
            System.out.println("README.md: " + what);
        }
    }

    /** For the rows. */
    public static void due(int line, String call, long got, long want) {
        asked++;
        check(got == want, "line " + line + ": " + call + " answered " + got + ", the page says " + want);
    }

    private static List<Block> blocksOf(List<String> lines) {
        List<Block> all = new ArrayList<>();
        Block open = null;
        for (int i = 0; i < lines.size(); i++) {
            String line = lines.get(i);
            if (open == null && line.startsWith("```")) {
                open = new Block(line.substring(3), i + 2);
            } else if (open != null && line.equals("```")) {
                all.add(open);
                open = null;
            } else if (open != null) {
                open.lines.add(line);
            }
        }
        check(open == null, "a block has no end");
        check(!all.isEmpty(), "nothing is shown");
        return all;
    }

    // ---- the program and the rows ----

    private static void judgeJava(List<Block> blocks, Path out) throws Exception {
        StringBuilder rows = new StringBuilder("public final class Rows {\npublic static void run() {\n");
        String program = "";
        String printed = "";
        for (int i = 0; i < blocks.size(); i++) {
            Block block = blocks.get(i);
            if (block.isProgram()) {
                program = String.join("\n", block.lines) + "\n";
            } else if (block.language.equals("java")) {
                addRows(block, rows);
            } else if (block.language.equals("text")) {
                printed = String.join("\n", block.lines) + "\n";
            }
        }
        rows.append("}\n}\n");
        check(!program.isEmpty() && !printed.isEmpty(), "no program is shown with what it prints");
        Files.writeString(out.resolve("Example.java"), program);
        Files.writeString(out.resolve("Rows.java"), rows);
        int failed = ToolProvider.getSystemJavaCompiler().run(null, null, null, "--release", "17", "-proc:none", "-cp",
                System.getProperty("java.class.path"), "-d", out.toString(),
                out.resolve("Example.java").toString(), out.resolve("Rows.java").toString());
        check(failed == 0, "what is shown does not compile");
        if (failed == 0) {
            run(out, printed);
        }
    }

    private static void addRows(Block block, StringBuilder rows) {
        for (int i = 0; i < block.lines.size(); i++) {
            String line = block.lines.get(i);
            int at = block.line + i;
            Matcher row = ROW.matcher(line);
            if (row.matches()) {
                String value = row.group(1) == null ? row.group(2) : row.group(1);
                rows.append(row.group(1) == null ? "" : line + "\n");
                rows.append("ReadmeTest.due(").append(at).append(", \"").append(row.group(2).replace("\"", "\\\""))
                        .append("\", ").append(value).append(", ").append(row.group(3)).append("L);\n");
            } else {
                check(!CALL.matcher(line).matches(), "line " + at + " does not say what is answered: " + line);
                rows.append(line).append('\n');
            }
        }
    }

    private static void run(Path out, String printed) throws Exception {
        try (URLClassLoader loader = new URLClassLoader(new URL[] {out.toUri().toURL()})) {
            loader.loadClass("Rows").getMethod("run").invoke(null);
            PrintStream before = System.out;
            ByteArrayOutputStream bytes = new ByteArrayOutputStream();
            System.setOut(new PrintStream(bytes, true, StandardCharsets.UTF_8));
            try {
                loader.loadClass("Example").getMethod("main", String[].class).invoke(null, (Object) new String[0]);
            } finally {
                System.setOut(before);
            }
            String got = bytes.toString(StandardCharsets.UTF_8).replace(System.lineSeparator(), "\n");
            asked += printed.split("\n").length;
            check(got.equals(printed), "the program prints\n" + got + "and the page says\n" + printed);
        }
    }

    private static void removeAll(Path root) throws IOException {
        try (Stream<Path> all = Files.walk(root)) {
            for (Path path : all.sorted(Comparator.reverseOrder()).toList()) {
                Files.delete(path);
            }
        }
    }

    // ---- what must be there ----

    /** Each method is shown with an answer, and is in the table with as many arguments as it has. */
    private static void judgeFace(List<Block> blocks, String text) {
        StringBuilder shown = new StringBuilder();
        for (Block block : blocks) {
            if (block.language.equals("java") && !block.isProgram()) {
                shown.append(String.join("\n", block.lines)).append('\n');
            }
        }
        for (Method method : NamedSparks.class.getDeclaredMethods()) {
            if (Modifier.isPublic(method.getModifiers())) {
                check(shown.indexOf("." + method.getName() + "(") >= 0, method.getName() + "() is not shown");
                String arguments = "\\w+, ".repeat(method.getParameterCount()).replaceAll(", $", "");
                check(Pattern.compile("(?m)^\\| `" + method.getName() + "\\(" + arguments + "\\)` \\|").matcher(text)
                        .find(), method.getName() + "() is not in the table");
            }
        }
        for (String reason : new String[] {"-1", "-2", "-3", "-5", "-6"}) {
            check(text.contains("\n| " + reason + " |"), "the table of reasons has no " + reason);
            check(Pattern.compile("; +// " + reason + ": ").matcher(shown).find(),
                    "no call is shown that is refused by " + reason);
        }
    }

    /** The commands name what is there, and all tests are run by the one that runs here. */
    private static void judgeCommands(List<Block> blocks) {
        boolean tests = false;
        for (Block block : blocks) {
            for (String line : block.language.equals("sh") ? block.lines : List.<String>of()) {
                tests |= line.equals(".ci/run");
                for (String word : line.split(" ")) {
                    check(!word.contains("/") || Files.isRegularFile(Path.of(word)), word + " is not there");
                }
            }
        }
        check(tests && Files.isExecutable(Path.of(".ci/run")), "the command that runs all tests is not there");
    }

    private static void judgeTests(String text) throws IOException {
        try (Stream<Path> all = Files.list(Path.of("src/test/java"))) {
            for (Path path : all.toList()) {
                String name = path.getFileName().toString();
                if (name.endsWith("Test.java")) {
                    check(text.contains("`" + name.replace(".java", "") + "`"), name + " is not told of");
                }
            }
        }
    }
}
