import java.io.IOException;
import java.nio.file.Files;
import java.nio.file.Path;
import java.util.ArrayList;
import java.util.List;

/** The sentences of the document that name a boundary case: each has a test of its own, on a new object. */
final class Sentences {
    static final int BAD = LogicMachine.BAD, STATE = LogicMachine.STATE, FULL = LogicMachine.FULL,
            NONE = LogicMachine.NONE;
    static final int LOW = Integer.MIN_VALUE, HIGH = Integer.MAX_VALUE;

    /** What a sentence asks of a new object. */
    interface Boundary {
        void check(Checks c);
    }

    /** What has been tested, and which of it does not hold: "promise: sentence". */
    static final List<String> tested = new ArrayList<>();
    static final List<String> broken = new ArrayList<>();

    private static String document;

    private Sentences() {
    }

    /** Tests a sentence that is quoted from the document; three points stand for words left out. */
    static void test(String promise, String sentence, Boundary boundary) {
        String name = promise + ": " + sentence;
        Checks c = new Checks(name);
        int before = Checks.wrong();
        c.due("another test of the same sentence", tested.contains(name) ? 1 : 0, 0);
        tested.add(name);
        c.due("the sentence stands in the document", stands(sentence) ? 1 : 0, 1);
        try {
            boundary.check(c);
        } catch (RuntimeException e) {
            c.due("a call threw " + e, 1, 0);
        }
        if (Checks.wrong() > before) {
            broken.add(name);
        }
    }

    private static boolean stands(String sentence) {
        if (document().isEmpty()) {
            return true;
        }
        int from = 0;
        for (String piece : sentence.split(" \\.\\.\\. ")) {
            int at = document().indexOf(piece, from);
            if (at < 0) {
                return false;
            }
            from = at + piece.length();
        }
        return true;
    }

    /** The document with one space between two words; empty where it is not at hand, since then no quotation can be checked. */
    private static String document() {
        if (document == null) {
            try {
                document = Files.readString(Path.of("../shared/DOC.md")).replaceAll("\\s+", " ");
            } catch (IOException e) {
                document = "";
            }
        }
        return document;
    }
}
