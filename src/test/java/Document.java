import java.io.IOException;
import java.nio.file.Files;
import java.nio.file.Path;
import java.util.ArrayList;
import java.util.List;

/** The document's sections, and which of their words a test has quoted. */
final class Document {
    /** A sentence ends here; "..." inside one does not end it. */
    private static final String SENTENCE_END = "(?<=[^.][.;:])\\s+";

    /** One section, and of each of its characters whether a test has quoted it. */
    private static final class Section {
        final String title;
        final String text;
        final boolean[] quoted;

        Section(String title, String text) {
            this.title = title;
            this.text = text;
            quoted = new boolean[text.length()];
        }

        boolean quote(String words) {
            int at = text.indexOf(words);
            boolean stands = at >= 0;
            for (; at >= 0; at = text.indexOf(words, at + 1)) {
                for (int i = 0; i < words.length(); i++) quoted[at + i] = true;
            }
            return stands;
        }

        boolean isQuoted(int from, int to) {
            for (int i = from; i < to; i++) {
                if (!quoted[i] && Character.isLetterOrDigit(text.charAt(i))) return false;
            }
            return true;
        }
    }

    private final List<Section> sections = new ArrayList<>();

    Document(String path) throws IOException {
        String all = Files.readString(Path.of(path));
        // The face and the headings ahead of its calls are FaceTest's.
        String words = all.replaceAll("(?s)```java.*?```", " ").replaceAll("Ahead of the calls [^\n]*", " ");
        String plain = words.replaceAll("```(text)?", " ").replaceAll("======== \\d", " ");
        for (String part : plain.split("(?m)^## ")) {
            String[] two = part.split("\n", 2);
            if (two.length == 2) sections.add(new Section(two[0].trim(), withoutSignature(two[1].replaceAll("\\s+", " ").trim())));
        }
    }

    private static String withoutSignature(String text) {
        return text.replaceFirst("^`[^`]*\\([^`]*\\)`: ", "");
    }

    /** Whether a test of a promise may quote from this section: the promise's own one, and the terms. */
    private static boolean belongsTo(Section section, int promise) {
        return section.title.equals("What it is") || section.title.equals("Terms") || section.title.startsWith("Promise " + promise + ":");
    }

    boolean quote(int promise, String words) {
        boolean stands = false;
        for (Section section : sections) {
            if (belongsTo(section, promise) && section.quote(words)) stands = true;
        }
        return stands;
    }

    /** The sentences of the terms and of all promises that no test has quoted whole. */
    List<String> unquoted() {
        List<String> found = new ArrayList<>();
        for (Section section : sections) {
            boolean promise = section.title.startsWith("Promise ");
            if (!promise && !belongsTo(section, Checks.TERMS)) continue;
            int from = 0;
            for (String sentence : section.text.split(SENTENCE_END)) {
                int at = section.text.indexOf(sentence, from);
                from = at + sentence.length();
                if (!section.isQuoted(at, from)) found.add(section.title + ": \"" + sentence + "\"");
            }
        }
        return found;
    }
}
