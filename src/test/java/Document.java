import java.io.IOException;
import java.nio.file.Files;
import java.nio.file.Path;
import java.util.LinkedHashMap;
import java.util.Map;
import java.util.regex.Matcher;
import java.util.regex.Pattern;

/** The words of DOC.md, place by place, and which of them some test has named as the sentence it is for. */
final class Document {
    private static final class Place {
        private final String words;
        private final boolean[] named;

        Place(String words) {
            this.words = words;
            named = new boolean[words.length()];
        }
    }

    private final Map<String, Place> places = new LinkedHashMap<>();

    Document(Path doc) throws IOException {
        String text = Files.readString(doc).replace("```text", "").replace("```", "").replaceAll("\\s+", " ");
        add(text, "TALKS", "TALKS (?=TALKS have)", "==== 2");
        add(text, "MEANINGS", "==== 2\\. MEANINGS ", "==== 3");
        add(text, "WHAT CAN BE SAID", "==== 3\\. WHAT CAN BE SAID ", "REFUSALS \\(");
        add(text, "REFUSALS", "REFUSALS (?=\\()", "Details\\. ");
        add(text, "Details", "Details\\. ", "## Promise 1:");
        for (int p = 1; p <= 45; p++) {
            add(text, "Promise " + p, "## Promise " + p + ": [^`]*`[^`]*`: ", "## (Promise|Not promised)");
        }
    }

    private void add(String text, String place, String start, String end) {
        Matcher m = Pattern.compile(start + "(.*?)" + end).matcher(text);
        places.put(place, new Place(m.find() ? m.group(1) : ""));
    }

    /** Whether the words stand at that place of the document; if so, they are named now. */
    boolean names(String where, String words) {
        Place place = places.get(where);
        boolean found = false;
        for (int at = place.words.indexOf(words); at >= 0; at = place.words.indexOf(words, at + 1)) {
            found = true;
            for (int i = at; i < at + words.length(); i++) {
                place.named[i] = true;
            }
        }
        return found;
    }

    /** What no test has named, with the place where it stands. */
    String unnamed() {
        StringBuilder left = new StringBuilder();
        for (Map.Entry<String, Place> entry : places.entrySet()) {
            Place place = entry.getValue();
            StringBuilder words = new StringBuilder();
            for (int i = 0; i < place.named.length; i++) {
                words.append(place.named[i] ? '|' : place.words.charAt(i));
            }
            if (place.words.isEmpty() || Pattern.compile("\\w").matcher(words).find()) {
                left.append(entry.getKey()).append(": ").append(words.toString().replaceAll("\\|+", "|")).append('\n');
            }
        }
        return left.toString();
    }
}
