import java.io.IOException;
import java.nio.file.Files;
import java.nio.file.Path;

/** Prints every answer that is not the one that is due, and ends a test with exit code 1 if there was one. */
final class Checker {
    private String about = "";
    private int looked;
    private int wrong;

    void about(String title) {
        about = title;
    }

    /** What follows is about a sentence of the document, which must stand there word by word. */
    void says(String sentence) {
        about("\"" + sentence + "\"");
        holds("this stands in the document", Document.TEXT.contains(sentence));
    }

    void due(String call, long got, long want) {
        looked++;
        if (got != want) {
            wrong++;
            System.out.println(about + ": " + call + " answered " + got + ", due is " + want);
        }
    }

    void holds(String what, boolean is) {
        due(what, is ? 1 : 0, 1);
    }

    int wrong() {
        return wrong;
    }

    void end() {
        System.out.println(looked + " answers looked at, " + wrong + " wrong");
        if (wrong != 0 || looked == 0) {
            System.exit(1);
        }
    }

    /** Feeds a text, sign by sign, and makes it a statute. */
    static int statute(CarpetsLaw x, String text) {
        feed(x, text);
        return x.statute();
    }

    static void feed(CarpetsLaw x, String text) {
        for (int i = 0; i < text.length(); i++) {
            x.feed(text.charAt(i));
        }
    }

    /** All cells get the same wear. */
    static void wearAll(CarpetsLaw x, int n) {
        for (int cell = 0; cell < 25; cell++) {
            x.wear(cell, n);
        }
    }

    /** Read once, when the first sentence is looked for; line ends count as blanks. */
    private static final class Document {
        static final String TEXT = read();

        private static String read() {
            try {
                return Files.readString(Path.of("../shared/DOC.md")).replaceAll("\\s+", " ");
            } catch (IOException e) {
                throw new IllegalStateException("no document", e);
            }
        }
    }
}
