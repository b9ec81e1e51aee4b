import java.util.ArrayList;
import java.util.HashMap;
import java.util.List;
import java.util.Map;

/**
 * Runs of calls on a new object, written as the document writes its examples, such as
 * "rectangle(0, 2, 2, 1, 1): 1; edges(): 4; edge(4, 0): throws index".
 *
 * Every answer is compared with the one that is due, or else with the oracle's, and the oracle has to
 * agree. After refused calls the object must answer all further calls as a twin that never got them.
 */
final class Runs {
    private static final int MOST_CALLS = 512;
    private static final Map<String, List<String>> TWINS = new HashMap<>();

    private Runs() {
    }

    static void check(String run) {
        List<Call> calls = Call.parse(run);
        RectilinearRoof roof = new RectilinearRoof();
        Oracle oracle = new Oracle();
        String place = " in " + shortened(run);
        Check.same("a run of at most 512 calls" + place, calls.size() <= MOST_CALLS ? 1 : 0, 1);
        for (int i = 0; i < calls.size(); i++) {
            Call call = calls.get(i);
            String theirs = call.on(oracle);
            String due = call.due() == null ? theirs : call.due();
            Check.same(call + place, call.on(roof), due);
            Check.same("the oracle's " + call + place, theirs, due);
            boolean isLast = i + 1 == calls.size() || !calls.get(i + 1).isRefused();
            if (call.isRefused() && isLast && Afterwards.canAsk(calls.subList(0, i + 1))) {
                compareWithTwin(place, calls.subList(0, i + 1));
            }
        }
    }

    private static String shortened(String run) {
        return run.length() <= 400 ? run : run.substring(0, 200) + " .. " + run.substring(run.length() - 200);
    }

    /**
     * An execute that is refused empties the buffer and moves the position of the error, as its
     * description says. So its twin never got the characters, and the position is not compared; the
     * twin of another refused call got the execute.
     */
    private static void compareWithTwin(String place, List<Call> calls) {
        Call last = calls.get(calls.size() - 1);
        List<Call> taken = taken(calls, last.is("execute"));
        List<String> due = TWINS.computeIfAbsent(taken.toString(), key -> Afterwards.answers(taken));
        List<String> got = Afterwards.answers(calls);
        Check.same("questions after " + last, got.size(), due.size());
        for (int i = 0; i < Math.min(got.size(), due.size()) && !Check.tooManyWrong(); i++) {
            if (!last.is("execute") || !due.get(i).startsWith("errorPosition")) {
                Check.same("after " + last + place, got.get(i), due.get(i));
            }
        }
    }

    private static List<Call> taken(List<Call> calls, boolean withoutExecutes) {
        List<Call> taken = new ArrayList<>();
        for (Call call : calls) {
            if (!call.isRefused() || call.is("execute") && !withoutExecutes) {
                taken.add(call);
            } else if (call.is("execute")) {
                dropCharacters(taken);
            }
        }
        return taken;
    }

    private static void dropCharacters(List<Call> taken) {
        for (int i = taken.size() - 1; i >= 0 && !taken.get(i).is("execute"); i--) {
            if (taken.get(i).is("append")) {
                taken.remove(i);
            }
        }
    }

    /** The calls that make a region: a text for each row of cells, the northernmost first, '#' for a cell. */
    static String picture(String... rows) {
        StringBuilder calls = new StringBuilder();
        for (int i = 0; i < rows.length; i++) {
            int y = rows.length - 1 - i;
            String row = rows[i] + ".";
            int x = row.indexOf('#');
            while (x >= 0) {
                int end = row.indexOf('.', x);
                calls.append("rectangle(0, " + x + ", " + y + ", " + (end - x) + ", 1); ");
                x = row.indexOf('#', end);
            }
        }
        return calls.toString();
    }

    /** Every other cell of the grid: the most components, contours, edges and corners. */
    static String checkerboard() {
        String[] rows = new String[12];
        for (int i = 0; i < 12; i++) {
            rows[i] = i % 2 == 0 ? ".#.#.#.#.#.#" : "#.#.#.#.#.#.";
        }
        return picture(rows);
    }

    static String times(int count, String calls) {
        return (calls + "; ").repeat(count);
    }
}
