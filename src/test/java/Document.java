import java.io.IOException;
import java.nio.file.Files;
import java.nio.file.Path;

/** ../shared/DOC.md, gone through from its first line to its last, each sentence with a run that shows it. */
final class Document {
    private static final Path DOCUMENT = Path.of("../shared/DOC.md");
    private static final int MOST_TOLD = 60;

    private final String text;
    private int place = 0;
    private int sentences = 0;

    /** The tests need no document: without one, only the runs are made. */
    Document() throws IOException {
        text = Files.isReadable(DOCUMENT) ? plain(Files.readString(DOCUMENT)) : null;
    }

    /** Without headings and marks, on one line. */
    private static String plain(String markdown) {
        return markdown.replaceAll("(?m)^#.*$", "").replaceAll("(?m)^```.*$", "").replaceAll("(?m)(^|: )- ", "$1").replace("`", "").replaceAll("\\s+", " ");
    }

    /** The next sentence, and a run that shows it. */
    void says(String sentence, String... lines) {
        title(sentence);
        Script.run(sentence, lines);
    }

    /** Another run for the same sentence. */
    void also(String what, String... lines) {
        Script.run(what, lines);
    }

    /** The next words, which the runs behind them show. */
    void title(String words) {
        sentences++;
        if (text == null) {
            return;
        }
        int found = text.indexOf(words, place);
        if (found < 0) {
            System.out.println("note: the document does not say behind the last sentence: " + words);
            return;
        }
        noteLeftOut(text.substring(place, found));
        place = found + words.length();
    }

    /** A document that has changed is no fault of the program's: so this is told only. */
    void end() {
        if (text != null) {
            noteLeftOut(text.substring(place));
        }
        System.out.println(sentences + " sentences and titles of the document");
    }

    private static void noteLeftOut(String words) {
        if (!words.isBlank()) {
            System.out.println("note: no run for: " + words.trim().substring(0, Math.min(MOST_TOLD, words.trim().length())));
        }
    }
}
