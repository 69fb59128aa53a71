import java.io.IOException;
import java.nio.file.Files;
import java.nio.file.Path;

/** Tests of what is due by a sentence of the document, which is quoted as it stands there. */
abstract class Edges extends Quays {
    private static final String DOC = document();
    private static String told = "";

    private static String document() {
        try {
            return plain(Files.readString(Path.of("../shared/DOC.md")));
        } catch (IOException e) {
            throw new IllegalStateException(e);
        }
    }

    private static String plain(String text) {
        return text.replaceAll("\\s+", " ");
    }

    /** The sentence that the answers due from here on go by. */
    static void says(String sentence) {
        told = sentence;
        Checks.due("the document says \"" + sentence + "\"", DOC.contains(plain(sentence)) ? 1 : 0, 1);
    }

    static void due(String call, long got, long want) {
        Checks.due("\"" + told + "\" " + call, got, want);
    }
}
