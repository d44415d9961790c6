import java.io.IOException;
import java.nio.file.Files;
import java.nio.file.Path;
import java.util.Arrays;
import java.util.LinkedHashMap;
import java.util.Map;

/**
 * The document's own words. A test names the sentence that it holds the class to; words that are not in the
 * document, and words of the document that no test names, count as wrong.
 */
final class Doc {
    private static final Path FILE = Path.of("../shared/DOC.md");

    private static final Map<String, String> TEXTS = new LinkedHashMap<>();
    private static final Map<String, boolean[]> NAMED = new LinkedHashMap<>();

    private Doc() {
    }

    /** What follows is about these words, which stand under that heading ('Terms', 'Promise 7'). */
    static void says(String heading, String words) {
        open();
        Due.about(heading + ": \"" + words + "\"");
        if (TEXTS.isEmpty()) {
            return;
        }
        String text = TEXTS.getOrDefault(heading, "");
        int place = text.indexOf(words);
        Due.is("words of the document", place >= 0 ? 1 : 0, 1);
        if (place >= 0) {
            Arrays.fill(NAMED.get(heading), place, place + words.length(), true);
        }
    }

    /** Every letter and figure of the terms and of the 22 promises must have been named by now. */
    static void allIsNamed() {
        if (TEXTS.isEmpty()) {
            System.out.println(FILE + " is not here: the words that the tests name were not looked up");
            return;
        }
        named("Terms");
        for (int k = 1; k <= 22; k++) {
            named("Promise " + k);
        }
        Due.about("");
    }

    private static void named(String heading) {
        Due.about(heading);
        String text = TEXTS.getOrDefault(heading, "");
        StringBuilder rest = new StringBuilder();
        for (int i = 0; i < text.length(); i++) {
            rest.append(NAMED.get(heading)[i] ? ' ' : text.charAt(i));
        }
        boolean all = !text.isEmpty() && rest.toString().chars().noneMatch(Character::isLetterOrDigit);
        Due.is("words that no test names", all ? "" : rest.toString().replaceAll(" +", " "), "");
    }

    private static void open() {
        if (!TEXTS.isEmpty() || !Files.exists(FILE)) {
            return;
        }
        try {
            for (String section : Files.readString(FILE).split("(?m)^## ")) {
                String[] parts = section.split("\n", 2);
                String heading = parts[0].replaceFirst(":.*", "").trim();
                TEXTS.put(heading, parts.length < 2 ? "" : plain(heading, parts[1]));
                NAMED.put(heading, new boolean[TEXTS.get(heading).length()]);
            }
        } catch (IOException e) {
            throw new IllegalStateException(e);
        }
    }

    /** Without fences, titles and the signature before a promise, and with one blank where there are several. */
    private static String plain(String heading, String text) {
        String flat = text.replaceAll("```(text|java)?", " ").replaceAll("==== \\d [A-Z]+\\.", " ").replaceAll("\\s+", " ");
        return heading.startsWith("Promise") ? flat.replaceFirst("^ ?`[^`]*`: ", "") : flat;
    }
}
