import java.io.IOException;
import java.nio.file.Files;
import java.nio.file.Path;
import java.util.ArrayList;
import java.util.Arrays;
import java.util.LinkedHashMap;
import java.util.List;
import java.util.Map;

/**
 * The document's own text, read in the project's folder: so that a test that quotes a sentence fails
 * when no such sentence stands there, and a sentence that no test quotes is told.
 */
final class Document {
    private static final Path FILE = Path.of("../shared/DOC.md");
    /** Where one sentence ends and the next one begins, in a text whose blanks are folded. */
    private static final String BETWEEN = "(?<=\\.) (?=[A-Za-z0-9`])|(?<=:) (?=```)| (?=Throws `|- `|Returns )";

    private final Map<String, String> texts = new LinkedHashMap<>();
    private final Map<String, boolean[]> quoted = new LinkedHashMap<>();

    Document() {
        for (String section : read().split("(?m)^## ")) {
            int end = section.indexOf('\n');
            String title = section.substring(0, Math.max(0, end));
            String text = section.substring(end + 1).replaceAll("\\s+", " ").trim();
            texts.put(title.replaceAll(":.*", ""), text);
            quoted.put(title.replaceAll(":.*", ""), new boolean[text.length()]);
        }
    }

    private static String read() {
        try {
            return Files.readString(FILE);
        } catch (IOException e) {
            throw new IllegalStateException("no document at " + FILE, e);
        }
    }

    /** The text of a section, its blanks folded; nothing if there is no such section. */
    String section(String title) {
        return texts.getOrDefault(title, "");
    }

    /** Whether the words stand in that section ("Terms", "Promise 2"); marks them as quoted. */
    boolean quotes(String section, String words) {
        String text = section(section);
        int at = text.indexOf(words);
        if (at >= 0) {
            Arrays.fill(quoted.get(section), at, at + words.length(), true);
        }
        return at >= 0;
    }

    /** The sentences of a section of which no word was quoted, or not each number. */
    List<String> unquoted(String section) {
        List<String> left = new ArrayList<>();
        int from = 0;
        for (String sentence : texts.get(section).split(BETWEEN)) {
            from = texts.get(section).indexOf(sentence, from);
            boolean any = false;
            boolean numbers = true;
            for (int i = 0; i < sentence.length(); i++) {
                boolean here = quoted.get(section)[from + i];
                any = any || here;
                numbers = numbers && (here || !Character.isDigit(sentence.charAt(i)));
            }
            if (!any || !numbers) {
                left.add(sentence);
            }
            from += sentence.length();
        }
        return left;
    }
}
