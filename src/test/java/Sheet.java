import java.nio.file.Files;
import java.nio.file.Path;
import java.util.HashSet;
import java.util.Set;

/**
 * The tests of the document's sentences: each test tells the sentence as it stands in the document
 * and which of its edges it holds to. A sentence that the document no longer has is told of, so that
 * its tests are read again; it fails nothing by itself.
 */
final class Sheet {
    interface Test {
        void run();
    }

    private final String name;
    private final String document;
    private final Set<String> told = new HashSet<>();
    private String now = "";
    private int tests = 0;
    private int wrong = 0;

    Sheet(String name, String documentFile) throws java.io.IOException {
        this.name = name;
        Path file = Path.of(documentFile);
        document = Files.exists(file) ? folded(Files.readString(file)) : null;
    }

    private static String folded(String text) {
        return text.replaceAll("\\s+", " ");
    }

    void edge(String sentence, String edge, Test test) {
        now = "'" + sentence + "', " + edge;
        tests++;
        if (!told.add(now)) fault("told twice");
        if (document != null && !document.contains(folded(sentence))) {
            System.out.println(name + ": no longer in the document: '" + sentence + "'");
        }
        try {
            test.run();
        } catch (RuntimeException e) {
            fault("throws " + e);
        }
    }

    void due(String what, long got, long want) {
        if (got != want) fault(what + " answered " + Calls.told(got) + ", due is " + Calls.told(want));
    }

    void dueOf(String what, Calls.Call call, long want) {
        due(what, Calls.outcome(call), want);
    }

    private void fault(String what) {
        wrong++;
        System.out.println(name + ": " + now + ": " + what);
    }

    void end() {
        System.out.println(name + ": " + tests + " tests, " + (wrong == 0 ? "all as due" : wrong + " wrong"));
        if (wrong != 0) System.exit(1);
    }
}
