import java.util.ArrayList;
import java.util.List;

/** What an object answers to every question, and to every further change, after a run of calls. */
final class Afterwards {
    private static final int MOST_CALLS = 512;
    private static final int LONGEST_PART = 162;

    private Afterwards() {
    }

    /** What an object answers after its last call is free. */
    static boolean canAsk(List<Call> before) {
        return before.size() + LONGEST_PART <= MOST_CALLS;
    }

    /** Each part of the questions is asked of an object of its own, which no more than 512 calls reach. */
    static List<String> answers(List<Call> before) {
        List<String> answers = new ArrayList<>();
        List<Call> looks = looks(before);
        int room = MOST_CALLS - before.size();
        for (int from = 0; from < looks.size(); from += room) {
            ask(before, looks.subList(from, Math.min(looks.size(), from + room)), answers);
        }
        ask(before, undoAndRedo(), answers);
        ask(before, restore(), answers);
        ask(before, Call.parse("execute(); errorPosition(); " + fingerprint()), answers);
        ask(before, Call.parse("append('m;'); count(3); execute(); errorPosition(); undo(); " + fingerprint()),
                answers);
        return answers;
    }

    private static RectilinearRoof made(List<Call> before) {
        RectilinearRoof roof = new RectilinearRoof();
        for (Call call : before) {
            call.on(roof);
        }
        return roof;
    }

    private static void ask(List<Call> before, List<Call> questions, List<String> answers) {
        Check.same("calls of an object", before.size() + questions.size() <= MOST_CALLS ? 1 : 0, 1);
        RectilinearRoof roof = made(before);
        for (Call question : questions) {
            answers.add(question + ": " + question.on(roof));
        }
    }

    private static String fingerprint() {
        return "count(0); count(1); count(2); count(3); volume(); corners(); symmetries(); phases(); ";
    }

    private static List<Call> undoAndRedo() {
        String back = ("undo(); " + fingerprint()).repeat(9);
        String forth = ("redo(); " + fingerprint()).repeat(9);
        return Call.parse(back + forth);
    }

    private static List<Call> restore() {
        List<Call> calls = Call.parse("restore(); " + fingerprint());
        addCells(calls, "contains");
        calls.addAll(Call.parse("undo(); " + fingerprint()));
        return calls;
    }

    private static void addCells(List<Call> calls, String name) {
        for (int cell = 0; cell < 144; cell++) {
            calls.add(Call.of(name, cell % 12, cell / 12));
        }
    }

    private static void addList(List<Call> calls, String name, int size, int whats) {
        for (int i = 0; i < size; i++) {
            for (int what = 0; what < whats; what++) {
                calls.add(Call.of(name, i, what));
            }
        }
    }

    /** All that can be asked without a change; how many edges and the like there are is asked first. */
    private static List<Call> looks(List<Call> before) {
        RectilinearRoof roof = made(before);
        List<Call> calls = Call.parse(fingerprint() + "errorPosition(); edges(); groups(); events(); branches()");
        addCells(calls, "contains");
        addCells(calls, "face");
        addList(calls, "edge", roof.edges(), 7);
        addList(calls, "group", roof.groups(), 4);
        addList(calls, "event", roof.events(), 7);
        addList(calls, "branch", roof.branches(), 6);
        addList(calls, "phase", roof.phases(), 8);
        for (int i = 0; i <= 24; i++) {
            calls.add(Call.of("area", i));
            calls.add(Call.of("height", 4 * i, (20 * i + 44) % 97));
        }
        for (int phase = 0; phase < roof.phases(); phase++) {
            addPhase(calls, roof, phase);
        }
        for (int i = 0; i < 12; i++) {
            calls.add(Call.of("clearance", i, 5 * i % 12, 11 - i, 7 * i % 12));
        }
        return calls;
    }

    private static void addPhase(List<Call> calls, RectilinearRoof roof, int phase) {
        for (int contour = 0; contour < Math.min(3, roof.phase(phase, 2)); contour++) {
            for (int what = 0; what < 4; what++) {
                calls.add(Call.of("contour", phase, contour, what));
            }
            for (int side = 0; side < roof.contour(phase, contour, 0); side++) {
                calls.add(Call.of("vertex", phase, contour, side, side % 2));
                calls.add(Call.of("origin", phase, contour, side, side % 3));
            }
        }
        for (int i = 0; i < 12; i++) {
            calls.add(Call.of("component", phase, i, 5 * i % 12));
            calls.add(Call.of("path", phase, i, 5 * i % 12, 11 - i, 7 * i % 12));
        }
    }
}
