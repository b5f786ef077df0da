import java.io.IOException;
import java.nio.file.Files;
import java.nio.file.Path;

/** Collects the answers of a test that are not the ones that are due. */
final class Due {
    private static final Path DOCUMENT = Path.of("../shared/DOC.md");

    private int asked = 0;
    private int wrong = 0;
    private String part = "";
    private String document = "";

    /** Names what the next answers belong to. */
    void about(String name) {
        part = name;
    }

    /** Names the words of the document that the next answers belong to; they must stand there. */
    void says(String place, String words) {
        about(place + ", '" + words + "'");
        holds("these words stand in the document", document().contains(inOneLine(words)));
    }

    private static String inOneLine(String text) {
        return text.replaceAll("\\s+", " ");
    }

    /** The document, with one blank for each row of blanks and line ends. */
    String document() {
        if (document.isEmpty()) {
            try {
                document = inOneLine(Files.readString(DOCUMENT));
            } catch (IOException e) {
                throw new IllegalStateException(e);
            }
        }
        return document;
    }

    void due(String call, long got, long want) {
        asked++;
        if (got != want) {
            wrong++;
            System.out.println(part + ": " + call + " answered " + got + ", due is " + want);
        }
    }

    void holds(String what, boolean is) {
        due(what, is ? 1 : 0, 1);
    }

    /** A run of calls on a new object, in the form that Run tells. */
    void run(String script) {
        Run.run(this, script);
    }

    int wrong() {
        return wrong;
    }

    /** Ends the program, with exit code 1 if an answer was wrong or none was asked for. */
    void end() {
        System.out.println(asked + " answers, " + wrong + " wrong");
        System.exit(wrong == 0 && asked > 0 ? 0 : 1);
    }
}
