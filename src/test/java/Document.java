import java.io.IOException;
import java.nio.file.Files;
import java.nio.file.Path;
import java.util.ArrayList;
import java.util.LinkedHashMap;
import java.util.List;
import java.util.Map;

/** The document's parts and promises, and which of their words no sentence quotes. */
final class Document {
    private final Map<String, String> parts = new LinkedHashMap<>();
    private final Map<String, boolean[]> quoted = new LinkedHashMap<>();

    Document(Path path) throws IOException {
        String text = Files.readString(path).replace("```text", " ").replace("```", " ").replaceAll("\\s+", " ");
        String[][] heads = heads();
        int from = 0;
        for (int i = 0; i < heads.length; i++) {
            from = behind(text, heads[i][1], from);
            int to = i + 1 < heads.length ? text.indexOf(heads[i + 1][1], from) : text.length();
            String part = text.substring(from, Math.max(from, to));
            // A promise has its name and its face in front of its words.
            int face = part.indexOf("`: ");
            parts.put(heads[i][0], heads[i][0].startsWith("Promise") ? part.substring(face + 3) : part);
            quoted.put(heads[i][0], new boolean[parts.get(heads[i][0]).length()]);
        }
    }

    /** A name for each part, and what stands at its head. */
    private static String[][] heads() {
        List<String[]> heads = new ArrayList<>();
        heads.add(new String[] {"What it is", "## What it is"});
        heads.add(new String[] {"The public face", "## The public face"});
        heads.add(new String[] {"Part I", "## Terms"});
        heads.add(new String[] {"Part II", "==== II."});
        heads.add(new String[] {"Part III", "==== III."});
        heads.add(new String[] {"Part IV", "==== IV."});
        heads.add(new String[] {"The constants", "The constants:"});
        for (int i = 1; i <= 29; i++) {
            heads.add(new String[] {"Promise " + i, "## Promise " + i + ":"});
        }
        heads.add(new String[] {"Not promised", "## Not promised"});
        return heads.toArray(new String[0][]);
    }

    private static int behind(String text, String head, int from) {
        int at = text.indexOf(head, from);
        if (at < 0) {
            throw new IllegalStateException("the document has no " + head);
        }
        return at + head.length();
    }

    /** Whether the words stand in that part; they count as quoted then. */
    boolean quote(String part, String words) {
        String text = parts.getOrDefault(part, "");
        int at = text.indexOf(words);
        for (int i = at; at >= 0 && i < at + words.length(); i++) {
            quoted.get(part)[i] = true;
        }
        return at >= 0;
    }

    /** What nobody quoted of the parts I to IV, the constants and the promises. */
    List<String> rest() {
        List<String> rest = new ArrayList<>();
        parts.forEach((name, text) -> {
            if (name.startsWith("P") || name.equals("The constants")) {
                StringBuilder left = new StringBuilder();
                for (int i = 0; i < text.length(); i++) {
                    left.append(quoted.get(name)[i] ? '\n' : text.charAt(i));
                }
                for (String words : left.toString().split("\n+")) {
                    // A sign that stands between two quotes says nothing by itself.
                    if (words.matches(".*[A-Za-z0-9].*")) {
                        rest.add(name + ": " + words.trim());
                    }
                }
            }
        });
        return rest;
    }
}
