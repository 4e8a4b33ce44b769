import java.io.IOException;
import java.nio.file.Files;
import java.nio.file.Path;
import java.util.ArrayList;
import java.util.LinkedHashMap;
import java.util.List;
import java.util.Map;
import java.util.regex.Matcher;
import java.util.regex.Pattern;

/** The document's sentences, from its first line on: which of them tests have named, and which none has. */
final class Document {
    private static final Path PLACE = Path.of("../shared/DOC.md");
    private static final int PROMISES = 43;

    /** By "What it is", "The public face", "I" .. "IV", "constants", "1" .. "43". */
    private final Map<String, String> sections = new LinkedHashMap<>();
    private final Map<String, boolean[]> named = new LinkedHashMap<>();

    Document() throws IOException {
        if (!Files.exists(PLACE)) {
            System.out.println(PLACE + " is not there: the sentences are not looked up");
            return;
        }
        String text = Files.readString(PLACE).replaceAll("\\s+", " ");
        String[] ends = {"## What it is", "## The public face", "## Terms", "I. CELLS", "II. TEXTS", "III. To CALL",
            "IV. NIGHTS", "The constants: ", "## Promise 1:"};
        String[] names = {"What it is", "The public face", "Terms", "I", "II", "III", "IV", "constants"};
        for (int i = 0; i < names.length; i++) {
            String section = text.substring(text.indexOf(ends[i]), text.indexOf(ends[i + 1]));
            keep(names[i], section.replace("## " + names[i], ""));
        }
        for (int n = 1; n <= PROMISES; n++) {
            int from = text.indexOf("## Promise " + n + ":");
            int to = text.indexOf("## ", from + 3);
            String whole = text.substring(from, to);
            // the heading and the face of the method are no sentences
            keep("" + n, whole.substring(whole.indexOf("`: ") + 3));
        }
    }

    private void keep(String name, String text) {
        sections.put(name, text);
        named.put(name, new boolean[text.length()]);
    }

    /** What the class declares for all to use, in the order of the document; nothing without the document. */
    List<String> face() {
        List<String> all = new ArrayList<>();
        Matcher found = Pattern.compile("public [^;{]*[;{]").matcher(sections.getOrDefault("The public face", ""));
        while (found.find()) {
            all.add(found.group());
        }
        return all;
    }

    /** Marks a sentence as named; false, if that section does not say it. */
    boolean name(String section, String sentence) {
        if (sections.isEmpty()) {
            return true;
        }
        String text = sections.get(section);
        int from = text == null ? -1 : text.indexOf(sentence);
        if (from < 0) {
            return false;
        }
        for (int i = from; i < from + sentence.length(); i++) {
            named.get(section)[i] = true;
        }
        return true;
    }

    /** Prints what no test has named: how many such places there are. */
    int unnamed() {
        int places = 0;
        for (Map.Entry<String, String> section : sections.entrySet()) {
            String text = section.getValue();
            boolean[] seen = named.get(section.getKey());
            StringBuilder open = new StringBuilder();
            for (int i = 0; i <= text.length(); i++) {
                if (i < text.length() && !seen[i]) {
                    open.append(text.charAt(i));
                } else {
                    // the numbers of the sections, and how the text is set, are no sentences
                    if (open.toString().replaceAll("\\b(I|II|III|IV)\\. |```(text|java)", "")
                            .matches(".*[a-zA-Z0-9].*")) {
                        places++;
                        System.out.println("no test names, in " + section.getKey() + ": " + open);
                    }
                    open.setLength(0);
                }
            }
        }
        return places;
    }
}
