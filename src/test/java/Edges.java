import java.nio.file.Files;
import java.nio.file.Path;
import java.util.HashSet;
import java.util.Set;

/**
 * The tests of the document's sentences: each test tells the sentence as it stands in the document
 * and which of its edges it holds to. A sentence that the document no longer has is told of, so that
 * its tests are read again; it fails nothing by itself.
 */
abstract class Edges implements Kinds {
    interface Test {
        void run();
    }

    private static final Path DOCUMENT = Path.of("../shared/DOC.md");
    private static final Set<String> told = new HashSet<>();
    private static String name;
    private static String document;
    private static String now = "";
    private static int wrong = 0;

    static void begin(String tests) throws java.io.IOException {
        name = tests;
        document = Files.exists(DOCUMENT) ? folded(Files.readString(DOCUMENT)) : null;
    }

    static void end() {
        System.out.println(name + ": " + told.size() + " tests, " + (wrong == 0 ? "all as due" : wrong + " wrong"));
        if (wrong != 0) System.exit(1);
    }

    private static String folded(String text) {
        return text.replaceAll("\\s+", " ");
    }

    static void edge(String sentence, String edge, Test test) {
        now = "'" + sentence + "', " + edge;
        if (!told.add(now)) fault("told twice");
        if (document != null && !document.contains(folded(sentence))) {
            System.out.println(name + ": no longer in the document: '" + sentence + "'");
        }
        try {
            test.run();
        } catch (RuntimeException e) {
            fault("throws " + e);
        }
    }

    static void due(String what, long got, long want) {
        if (got != want) fault(what + " answered " + Calls.told(got) + ", due is " + Calls.told(want));
    }

    static void dueOf(String what, Calls.Call call, long want) {
        due(what, Calls.outcome(call), want);
    }

    private static void fault(String what) {
        wrong++;
        System.out.println(name + ": " + now + ": " + what);
    }

    static long bit(boolean answer) {
        return answer ? 1 : 0;
    }

    static LandBonds desk(int lands, int places, int persons) {
        return Calls.desk(lands, places, persons);
    }

    static int act(LandBonds x, int land, String text, int from, int to) {
        return Calls.act(x, land, text, from, to);
    }
}
