import java.io.IOException;
import java.nio.file.Files;
import java.nio.file.Path;
import java.util.Set;
import java.util.TreeSet;

/** Which sentence of the document is tested just now, and how many answers were not as due. */
final class Sentences {
    private static final int PROMISES = 42;
    private static final int SHOWN = 60;

    private static final Set<Integer> NAMED = new TreeSet<>();
    private static String document = "";
    private static String heading = "";
    private static int sentences;
    private static int answers;
    private static int wrong;

    private Sentences() {
    }

    static void readDocument(String path) throws IOException {
        document = onOneLine(Files.readString(Path.of(path)));
    }

    private static String onOneLine(String text) {
        return text.replaceAll("\\s+", " ");
    }

    /** All answers from here on belong to these words, which must stand in the document. */
    static void begin(int promise, String words) {
        sentences++;
        NAMED.add(promise);
        heading = "promise " + promise + ", '" + words + "'";
        if (!document.contains(onOneLine(words))) {
            wrong("the document has no such words");
        }
    }

    static void due(String call, long got, long want) {
        answers++;
        if (got != want) {
            wrong(call + " answered " + got + ", due is " + want);
        }
    }

    static void wrong(String what) {
        wrong++;
        if (wrong <= SHOWN) {
            System.out.println(heading + ": " + what);
        }
    }

    /** The number of faults; a promise that no sentence named is one, too. */
    static int finish() {
        for (int promise = 1; promise <= PROMISES; promise++) {
            if (!NAMED.contains(promise)) {
                heading = "promise " + promise;
                wrong("no sentence of it is tested");
            }
        }
        System.out.println("BoundaryTests: " + sentences + " sentences, " + answers + " answers, " + wrong + " wrong");
        return wrong;
    }
}
