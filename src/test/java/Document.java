import java.io.IOException;
import java.nio.file.Files;
import java.nio.file.Path;
import java.util.Arrays;
import java.util.LinkedHashMap;
import java.util.Map;

/** The sentences of the document by their sections: what a test names must stand there. */
final class Document {
    private final Map<String, String> sections = new LinkedHashMap<>();
    private final Map<String, boolean[]> named = new LinkedHashMap<>();

    Document(Path path) throws IOException {
        String title = "";
        boolean code = false;
        for (String line : Files.readAllLines(path)) {
            if (line.startsWith("```")) {
                code = !code;
            } else if (line.startsWith("## ")) {
                title = line.substring(3).replaceAll("^(Promise [0-9]+):.*", "$1");
            } else if (!code && isBinding(title)) {
                sections.merge(title, sentences(line), (text, more) -> (text + " " + more).trim());
            }
        }
        sections.forEach((section, text) -> named.put(section, new boolean[text.length()]));
    }

    private static boolean isBinding(String title) {
        return title.startsWith("Promise ") || title.equals("Terms") || title.equals("What it is");
    }

    /** A line without the marks of a list, the face that FaceTest looks at, and what tells mere comments. */
    private static String sentences(String line) {
        if (line.startsWith("Ahead of the calls ")) {
            return "";
        }
        return line.replaceAll("^- ", "").replaceAll("^`[^`]*\\)[^`]*`: ", "").replaceAll("\\s+", " ").trim();
    }

    Iterable<String> sections() {
        return sections.keySet();
    }

    /** Whether the sentence, or the part of one, stands in the section. */
    boolean name(String section, String sentence) {
        String text = sections.getOrDefault(section, "");
        int place = text.indexOf(sentence);
        boolean stands = place >= 0;
        while (place >= 0) {
            Arrays.fill(named.get(section), place, place + sentence.length(), true);
            place = text.indexOf(sentence, place + 1);
        }
        return stands;
    }

    /** What is left of a section if all that was named is taken out of it. */
    String unnamed(String section) {
        StringBuilder left = new StringBuilder();
        String text = sections.get(section);
        for (int place = 0; place < text.length(); place++) {
            left.append(named.get(section)[place] ? '\n' : text.charAt(place));
        }
        return left.toString().replaceAll("\\s+", " ").trim();
    }
}
