import java.util.ArrayList;
import java.util.List;

/** A test for each sentence of the document: the words that the document says, and the runs that hold them. */
final class Sentences {
    private record Held(String section, String words) {
    }

    private static final List<Held> HELD = new ArrayList<>();

    private Sentences() {
    }

    static void hold(String section, String words, String... runs) {
        HELD.add(new Held(section, words));
        int before = Check.wrong();
        Check.same("the document says it", Doc.says(section, words) ? 1 : 0, 1);
        for (String run : runs) {
            if (!Check.tooManyWrong()) {
                Runs.check(run);
            }
        }
        if (Check.wrong() > before) {
            System.out.println("-- not held: " + section + ": " + words);
        }
    }

    private static boolean isHeld(String section, String words) {
        for (Held held : HELD) {
            if (held.section.equals(section) && (words.contains(held.words) || held.words.contains(words))) {
                return true;
            }
        }
        return false;
    }

    /** No line of a promise that names a limit may be without a test. */
    static void allLimitsHeld(int firstPromise, int lastPromise) {
        for (int i = firstPromise; i <= lastPromise; i++) {
            for (String limit : Doc.limits("Promise " + i)) {
                Check.same("a test for promise " + i + ": " + limit, isHeld("Promise " + i, limit) ? 1 : 0, 1);
            }
        }
    }

    static void allClausesHeld(String... sections) {
        for (String section : sections) {
            for (String clause : Doc.clauses(section)) {
                Check.same("a test for " + section + ": " + clause, isHeld(section, clause) ? 1 : 0, 1);
            }
        }
    }
}
