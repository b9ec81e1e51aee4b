/** Promises 22 to 33: a test for each line that names a limit, a special case or an exception. */
public final class PhasesTest {
    private PhasesTest() {
    }

    public static void main(String[] args) {
        phases();
        phaseProperties();
        regionAfterRegion();
        phaseRefused();
        contourProperties();
        contourRefused();
        vertex();
        vertexRefused();
        origin();
        originRefused();
        component();
        componentRefused();
        events();
        eventProperties();
        eventRefused();
        branches();
        branchProperties();
        branchRefused();
        clearance();
        path();
        pathRefused();
        Sentences.allLimitsHeld(22, 33);
        Check.finish("PhasesTest");
    }

    private static void hold(int promise, String words, String... runs) {
        Sentences.hold("Promise " + promise, words, runs);
    }

    private static String strange(String before, String after, String thrown) {
        return EdgesTest.strange(before, after, thrown);
    }

    private static void phases() {
        hold(22, "Returns the number of phases.",
                "phases(): 0", States.LAST_CELL + "phases(): 1",
                States.WHOLE + "phases(): 12; rectangle(1, 6, 6, 1, 1); phases(): 6; undo(); phases(): 12; clear(); "
                        + "phases(): 0",
                "rectangle(0, 0, 0, 12, 1); phases(): 1; rectangle(0, 0, 0, 12, 2); phases(): 2; "
                        + "rectangle(0, 0, 0, 12, 11); phases(): 11",
                Runs.checkerboard() + "phases(): 1");
    }

    private static void phaseProperties() {
        hold(23, "`what`: 0 for the number of quarter cells, 1 for the number of components, 2 for the number of "
                + "contours, 3 for the number of contours of holes, 4 for the number of vertices of all contours, 5 "
                + "for the number of those at which the contour turns left, 6 for the length of all contours in "
                + "quarters, 7 for the number of merged sides",
                States.LAST_CELL + "phase(0, 0): 4; phase(0, 1): 1; phase(0, 2): 1; phase(0, 3): 0; phase(0, 4): 4; "
                        + "phase(0, 5): 4; phase(0, 6): 8; phase(0, 7): 0",
                States.RING + "phase(0, 0): 288; phase(0, 1): 1; phase(0, 2): 2; phase(0, 3): 1; phase(0, 4): 8; "
                        + "phase(0, 5): 4; phase(0, 6): 96; phase(0, 7): 0; phase(1, 0): 96; phase(1, 3): 1; "
                        + "phase(1, 6): 96",
                States.ROOMS + "phase(0, 0): 220; phase(0, 1): 1; phase(0, 4): 12; phase(0, 5): 8; phase(0, 7): 0; "
                        + "phase(1, 0): 72; phase(1, 1): 2; phase(1, 2): 2; phase(1, 4): 8; phase(1, 5): 8; "
                        + "phase(1, 6): 48; phase(1, 7): 2; phase(2, 0): 8; phase(2, 6): 16; phase(2, 7): 2",
                Runs.checkerboard() + "phase(0, 0): 288; phase(0, 1): 72; phase(0, 2): 72; phase(0, 3): 0; "
                        + "phase(0, 4): 288; phase(0, 5): 288; phase(0, 6): 576; phase(0, 7): 0",
                States.WHOLE + "phase(0, 0): 2116; phase(0, 6): 184; phase(11, 0): 4; phase(11, 6): 8; "
                        + "phase(11, 4): 4");
    }

    /** Nothing may stay from the region before: its phases, contours, components, sides and branches. */
    private static void regionAfterRegion() {
        hold(23, "Returns a property of a phase.",
                States.WHOLE + "phase(0, 2): 1; phase(0, 5): 4; phase(0, 6): 184; rectangle(1, 5, 5, 1, 1); "
                        + "phase(0, 1): 1; phase(0, 2): 2; phase(0, 3): 1; phase(0, 4): 8; phase(0, 5): 4; "
                        + "phase(0, 6): 208; undo(); phase(0, 2): 1; phase(0, 3): 0; phase(0, 4): 4; phase(0, 5): 4; "
                        + "phase(0, 6): 184",
                Runs.checkerboard() + "phase(0, 1): 72; clear(); rectangle(0, 0, 0, 1, 1); phase(0, 1): 1; "
                        + "phase(0, 2): 1; phase(0, 5): 4; component(0, 1, 0): -1",
                States.WHOLE + "phases(); clear(); "
                        + Runs.picture("##..##", "##..##", "##..##", "......", "......", "..##..")
                        + "phase(0, 1): 3; component(0, 3, 0): 0; component(0, 1, 3): 1; component(0, 5, 3): 2; "
                        + "component(0, 1, 5): 1; component(0, 5, 5): 2",
                // the room with the merged side is numbered first when the other one goes
                Runs.picture("#####", "#####", "#####", "#####", "#.#.#", ".....", "##...", "##...")
                        + "phase(1, 7): 1; phase(1, 4): 8; rectangle(1, 0, 0, 2, 2); phase(1, 7): 1; phase(1, 4): 4");
        hold(31, "Returns a property of a branch.",
                States.ROOMS + "branches(): 3; branch(0, 4): 2; event(0, 6): 1; rectangle(0, 3, 0, 2, 3); "
                        + "branches(): 1; branch(0, 4): 0; branch(0, 1): 2; events(): 1; event(0, 5): 1; "
                        + "event(0, 6): 0; undo(); branches(): 3; branch(0, 4): 2; branch(0, 5): 2; event(0, 6): 1; "
                        + "event(1, 5): 2");
    }

    private static void phaseRefused() {
        hold(23, "Throws `IndexOutOfBoundsException` if there is no such phase",
                States.each(strange("phase(", ", 0)", "index") + "phase(12, 0): throws index; "
                        + "phase(13, 7): throws index"));
        hold(23, "Throws `IndexOutOfBoundsException` if there is no such phase",
                "phase(0, 0): throws index",
                States.CLEARED + "phase(0, 0): throws index; phase(1, 0): throws index",
                States.RICH + "phase(2, 0): 8; phase(3, 0): throws index",
                States.FULL + "phase(11, 0): 4; phase(12, 0): throws index",
                States.WHOLE + "phase(11, 0): 4; rectangle(1, 6, 6, 1, 1); phase(6, 0): throws index; "
                        + "phase(11, 0): throws index; phase(5, 1): 1");
        hold(23, "Throws `IllegalArgumentException` if what is not from 0 to 7",
                States.RICH + strange("phase(0, ", ")", "argument") + "phase(0, 8): throws argument; "
                        + "phase(2, 8): throws argument",
                States.FULL + strange("phase(11, ", ")", "argument") + "phase(11, 8): throws argument");
    }

    private static void contourProperties() {
        hold(24, "`what`: 0 for the number of vertices, 1 for 1 if it is the contour of a hole, otherwise 0, 2 for "
                + "the component that it bounds, 3 for the length in quarters",
                States.LAST_CELL + "contour(0, 0, 0): 4; contour(0, 0, 1): 0; contour(0, 0, 2): 0; "
                        + "contour(0, 0, 3): 8",
                States.RING + "contour(0, 0, 0): 4; contour(0, 0, 1): 0; contour(0, 0, 3): 72; contour(0, 1, 0): 4; "
                        + "contour(0, 1, 1): 1; contour(0, 1, 2): 0; contour(0, 1, 3): 24; contour(1, 0, 3): 56; "
                        + "contour(1, 1, 3): 40",
                Runs.picture("#####", "#...#", "#.#.#", "#...#", "#####") + "contour(0, 0, 2): 0; "
                        + "contour(0, 1, 1): 1; contour(0, 1, 2): 0; contour(0, 2, 1): 0; contour(0, 2, 2): 1; "
                        + "contour(0, 2, 3): 8",
                // the hole bounds the second component, and its contour comes last
                Runs.picture("...####", "...#..#", "##.####", "##.####") + "contour(0, 0, 2): 0; "
                        + "contour(0, 1, 2): 1; contour(0, 2, 1): 1; contour(0, 2, 2): 1; contour(0, 2, 3): 32",
                Runs.checkerboard() + "contour(0, 71, 0): 4; contour(0, 71, 1): 0; contour(0, 71, 2): 71; "
                        + "contour(0, 71, 3): 8",
                States.RICH + "contour(1, 0, 2): 0; contour(1, 1, 2): 1; contour(1, 2, 2): 2; contour(1, 3, 2): 2; "
                        + "contour(1, 3, 1): 1",
                States.ELL + "contour(0, 0, 0): 6; contour(0, 0, 3): 104; contour(2, 0, 0): 4");
    }

    private static void contourRefused() {
        hold(24, "Throws `IndexOutOfBoundsException` if there is no such phase or contour",
                States.each(strange("contour(", ", 0, 0)", "index") + strange("contour(0, ", ", 0)", "index")
                        + "contour(12, 0, 0): throws index; contour(0, 3, 0): throws index"));
        hold(24, "Throws `IndexOutOfBoundsException` if there is no such phase or contour",
                "contour(0, 0, 0): throws index",
                States.CLEARED + "contour(0, 0, 3): throws index",
                States.RICH + "contour(0, 2, 0): 4; contour(0, 3, 0): throws index; contour(1, 3, 0): 4; "
                        + "contour(1, 4, 0): throws index; contour(2, 1, 0): 4; contour(2, 2, 0): throws index; "
                        + "contour(3, 0, 0): throws index",
                States.FULL + "contour(11, 0, 0): 4; contour(11, 1, 0): throws index; "
                        + "contour(12, 0, 0): throws index",
                Runs.checkerboard() + "contour(0, 72, 0): throws index");
        hold(24, "Throws `IllegalArgumentException` if what is not from 0 to 3",
                States.RICH + strange("contour(0, 2, ", ")", "argument") + "contour(0, 0, 4): throws argument; "
                        + "contour(1, 3, 4): throws argument",
                States.FULL + strange("contour(11, 0, ", ")", "argument") + "contour(0, 0, 4): throws argument");
    }

    private static void vertex() {
        hold(25, "`axis`: 0 for x, 1 for y",
                States.LAST_CELL + "vertex(0, 0, 0, 0): 45; vertex(0, 0, 0, 1): 45; vertex(0, 0, 1, 0): 47; "
                        + "vertex(0, 0, 1, 1): 45; vertex(0, 0, 2, 0): 47; vertex(0, 0, 2, 1): 47; "
                        + "vertex(0, 0, 3, 0): 45; vertex(0, 0, 3, 1): 47",
                "rectangle(0, 0, 3, 2, 1); vertex(0, 0, 0, 0): 1; vertex(0, 0, 0, 1): 13; vertex(0, 0, 2, 0): 7; "
                        + "vertex(0, 0, 2, 1): 15");
        hold(25, "Returns the coordinate in quarters.",
                States.WHOLE + "vertex(0, 0, 0, 0): 1; vertex(0, 0, 2, 0): 47; vertex(11, 0, 0, 0): 23; "
                        + "vertex(11, 0, 2, 1): 25",
                Runs.checkerboard() + "vertex(0, 0, 0, 0): 1; vertex(0, 0, 0, 1): 1; vertex(0, 71, 2, 0): 47; "
                        + "vertex(0, 71, 2, 1): 47",
                // all four directions of the hole's sides and of the other way round
                Runs.picture("#####", "#####", "##.##", "#.###", "#####") + "vertex(0, 1, 0, 0): 3; "
                        + "vertex(0, 1, 0, 1): 3; vertex(0, 1, 1, 0): 3; vertex(0, 1, 1, 1): 9; "
                        + "vertex(0, 1, 2, 0): 7; vertex(0, 1, 2, 1): 9; vertex(0, 1, 3, 0): 7; "
                        + "vertex(0, 1, 3, 1): 13; vertex(0, 1, 4, 0): 13; vertex(0, 1, 4, 1): 13; "
                        + "vertex(0, 1, 5, 0): 13; vertex(0, 1, 5, 1): 7; vertex(0, 1, 6, 0): 9; "
                        + "vertex(0, 1, 6, 1): 7; vertex(0, 1, 7, 0): 9; vertex(0, 1, 7, 1): 3");
    }

    private static void vertexRefused() {
        hold(25, "Throws `IndexOutOfBoundsException` if there is no such phase, contour or vertex",
                States.each(strange("vertex(", ", 0, 0, 0)", "index") + strange("vertex(0, ", ", 0, 0)", "index")
                        + strange("vertex(0, 0, ", ", 0)", "index") + "vertex(12, 0, 0, 0): throws index; "
                        + "vertex(0, 3, 0, 1): throws index; vertex(0, 0, 12, 1): throws index"));
        hold(25, "Throws `IndexOutOfBoundsException` if there is no such phase, contour or vertex",
                "vertex(0, 0, 0, 0): throws index",
                States.CLEARED + "vertex(0, 0, 0, 1): throws index",
                States.RICH + "vertex(0, 0, 11, 0): 1; vertex(0, 0, 12, 0): throws index; vertex(0, 1, 3, 0): 5; "
                        + "vertex(0, 1, 4, 0): throws index; vertex(0, 2, 4, 1): throws index; "
                        + "vertex(1, 4, 0, 0): throws index; vertex(2, 1, 3, 1): 7; "
                        + "vertex(2, 1, 4, 1): throws index; vertex(3, 0, 0, 1): throws index",
                States.FULL + "vertex(11, 0, 3, 0): 23; vertex(11, 0, 4, 0): throws index; "
                        + "vertex(12, 0, 0, 0): throws index");
        hold(25, "Throws `IllegalArgumentException` if axis is neither 0 nor 1",
                States.RICH + strange("vertex(0, 0, 0, ", ")", "argument") + "vertex(0, 0, 11, 2): throws argument; "
                        + "vertex(1, 3, 3, 2): throws argument",
                States.FULL + strange("vertex(11, 0, 3, ", ")", "argument") + "vertex(0, 0, 0, 2): throws argument");
    }

    private static void origin() {
        hold(26, "`what`: 0 for the number of these edges, 1 for the lowest of them, 2 for the highest of them",
                States.LAST_CELL + "origin(0, 0, 0, 0): 1; origin(0, 0, 0, 1): 0; origin(0, 0, 0, 2): 0; "
                        + "origin(0, 0, 3, 0): 1; origin(0, 0, 3, 1): 3; origin(0, 0, 3, 2): 3",
                States.ROOMS + "origin(1, 0, 1, 0): 2; origin(1, 0, 1, 1): 1; origin(1, 0, 1, 2): 9; "
                        + "origin(1, 1, 3, 0): 2; origin(1, 1, 3, 1): 3; origin(1, 1, 3, 2): 7; "
                        + "origin(1, 0, 0, 0): 1; origin(1, 0, 0, 1): 0; origin(1, 1, 0, 1): 4; "
                        + "origin(1, 1, 0, 2): 4; origin(2, 0, 1, 2): 9",
                States.RING + "origin(0, 1, 0, 1): 4; origin(1, 1, 3, 1): 7; origin(1, 1, 3, 2): 7; "
                        + "origin(1, 0, 2, 0): 1",
                States.WHOLE + "origin(11, 0, 0, 1): 0; origin(11, 0, 1, 1): 1; origin(11, 0, 2, 1): 2; "
                        + "origin(11, 0, 3, 1): 3",
                Runs.checkerboard() + "origin(0, 71, 3, 0): 1; origin(0, 71, 3, 1): 287; origin(0, 71, 3, 2): 287");
    }

    private static void originRefused() {
        hold(26, "Throws `IndexOutOfBoundsException` if there is no such phase, contour or side",
                States.each(strange("origin(", ", 0, 0, 0)", "index") + strange("origin(0, ", ", 0, 0)", "index")
                        + strange("origin(0, 0, ", ", 0)", "index") + "origin(12, 0, 0, 0): throws index; "
                        + "origin(0, 3, 0, 1): throws index; origin(0, 0, 12, 2): throws index"));
        hold(26, "Throws `IndexOutOfBoundsException` if there is no such phase, contour or side",
                "origin(0, 0, 0, 0): throws index",
                States.CLEARED + "origin(0, 0, 0, 2): throws index",
                States.RICH + "origin(0, 0, 11, 0): 1; origin(0, 0, 12, 0): throws index; origin(0, 2, 3, 1): 19; "
                        + "origin(0, 2, 4, 1): throws index; origin(1, 4, 0, 0): throws index; "
                        + "origin(2, 1, 4, 0): throws index; origin(3, 0, 0, 0): throws index",
                States.FULL + "origin(11, 0, 3, 1): 3; origin(11, 0, 4, 0): throws index; "
                        + "origin(12, 0, 0, 0): throws index");
        hold(26, "Throws `IllegalArgumentException` if what is not from 0 to 2",
                States.RICH + strange("origin(0, 0, 0, ", ")", "argument") + "origin(0, 0, 11, 3): throws argument; "
                        + "origin(1, 3, 3, 3): throws argument",
                States.FULL + strange("origin(11, 0, 3, ", ")", "argument") + "origin(0, 0, 0, 3): throws argument");
    }

    private static void component() {
        hold(27, "Returns the component, or -1 if the quarter cell does not belong to the phase.",
                States.LAST_CELL + "component(0, 11, 11): -1; component(0, 10, 11): -1; component(0, 0, 0): -1",
                // the sample is 1/8 from the west: below 1/4
                States.WHOLE + "component(0, 0, 0): -1; component(0, 0, 11): -1; component(0, 11, 0): 0; "
                        + "component(0, 11, 11): 0; component(0, 1, 0): 0; component(1, 1, 0): -1; "
                        + "component(10, 5, 5): -1; component(10, 6, 6): 0; component(10, 6, 5): 0; "
                        + "component(11, 6, 6): -1",
                States.RICH + "component(0, 11, 11): -1; component(0, 6, 1): 0; component(1, 6, 1): 1; "
                        + "component(1, 1, 6): -1; component(0, 2, 6): 1; component(1, 5, 6): 2; "
                        + "component(2, 1, 1): -1; component(0, 3, 7): -1",
                "rectangle(0, 1, 1, 10, 10); component(0, 0, 5): -1; component(0, 11, 5): -1; "
                        + "component(0, 5, 0): -1; component(0, 5, 11): -1");
    }

    private static void componentRefused() {
        String cells = "component(0, -1, 0): throws index; component(0, 12, 0): throws index; "
                + "component(0, 0, -1): throws index; component(0, 0, 12): throws index; "
                + "component(0, 11, 12): throws index; component(0, 12, 11): throws index; "
                + "component(0, -1, 11): throws index; "
                + strange("component(0, ", ", 5)", "index") + strange("component(0, 5, ", ")", "index");
        hold(27, "Throws `IndexOutOfBoundsException` if there is no such phase, or x or y is not from 0 to 11",
                States.each(cells + strange("component(", ", 5, 5)", "index") + "component(12, 5, 5): throws index"));
        hold(27, "Throws `IndexOutOfBoundsException` if there is no such phase, or x or y is not from 0 to 11",
                "component(0, 0, 0): throws index",
                States.RICH + "component(2, 1, 1): -1; component(3, 1, 1): throws index",
                States.WHOLE + "component(11, 11, 11): -1; component(12, 11, 11): throws index");
    }

    private static void events() {
        hold(28, "Returns the number of events.",
                "events(): 0",
                States.LAST_CELL + "events(): 1; clear(); events(): 0; undo(); events(): 1",
                States.WHOLE + "events(): 1", Runs.checkerboard() + "events(): 1", States.ROOMS + "events(): 2",
                States.ELL + "events(): 2", States.RICH + "events(): 3",
                // an event at every k
                "rectangle(0, 0, 0, 6, 6); rectangle(0, 6, 0, 6, 1); rectangle(0, 7, 1, 5, 1); "
                        + "rectangle(0, 0, 8, 3, 3); rectangle(0, 5, 8, 4, 4); phases(): 6; events(): 5; "
                        + "event(3, 0): 4; event(4, 0): 6");
    }

    private static void eventProperties() {
        hold(29, "`what`: 0 for k; 1 and 2 for the total number of vertices of phase k - 1 and of phase k; 3 and 4 "
                + "for the number of components of these phases; 5 for the number of components of phase k - 1 that "
                + "vanish; 6 for the number of components of phase k - 1 that split",
                States.LAST_CELL + "event(0, 0): 1; event(0, 1): 4; event(0, 2): 0; event(0, 3): 1; event(0, 4): 0; "
                        + "event(0, 5): 1; event(0, 6): 0",
                States.WHOLE + "event(0, 0): 12; event(0, 1): 4; event(0, 2): 0; event(0, 5): 1; event(0, 6): 0",
                States.ROOMS + "event(0, 0): 1; event(0, 1): 12; event(0, 2): 8; event(0, 3): 1; event(0, 4): 2; "
                        + "event(0, 5): 0; event(0, 6): 1; event(1, 0): 3; event(1, 1): 8; event(1, 2): 0; "
                        + "event(1, 3): 2; event(1, 4): 0; event(1, 5): 2; event(1, 6): 0",
                // as many components as before, for one splits and one vanishes
                Runs.picture("###..###", "########", "###..###", "........", "######..") + "event(0, 0): 1; "
                        + "event(0, 1): 16; event(0, 2): 8; event(0, 3): 2; event(0, 4): 2; event(0, 5): 1; "
                        + "event(0, 6): 1",
                // one component splits into three
                Runs.picture("..##...", "..##...", "#######", "##.#.##", "##...##") + "event(0, 0): 1; "
                        + "event(0, 3): 1; event(0, 4): 3; event(0, 5): 0; event(0, 6): 1",
                States.ELL + "event(0, 0): 2; event(0, 5): 0; event(0, 6): 0");
    }

    private static void eventRefused() {
        hold(29, "Throws `IndexOutOfBoundsException` if there is no such event",
                States.each(strange("event(", ", 0)", "index") + "event(3, 0): throws index; "
                        + "event(12, 6): throws index"));
        hold(29, "Throws `IndexOutOfBoundsException` if there is no such event",
                "event(0, 0): throws index", States.CLEARED + "event(0, 0): throws index",
                States.RICH + "event(2, 0): 3; event(3, 0): throws index",
                States.FULL + "event(0, 0): 12; event(1, 0): throws index",
                States.ROOMS + "event(1, 0): 3; event(2, 0): throws index");
        hold(29, "Throws `IllegalArgumentException` if what is not from 0 to 6",
                States.RICH + strange("event(2, ", ")", "argument") + "event(0, 7): throws argument; "
                        + "event(2, 7): throws argument",
                States.FULL + strange("event(0, ", ")", "argument") + "event(0, 7): throws argument");
    }

    private static void branches() {
        hold(30, "Returns the number of branches.",
                "branches(): 0",
                States.LAST_CELL + "branches(): 1; clear(); branches(): 0; undo(); branches(): 1",
                States.WHOLE + "branches(): 1", Runs.checkerboard() + "branches(): 72",
                States.ROOMS + "branches(): 3", States.ELL + "branches(): 1", States.RING + "branches(): 1",
                States.RICH + "branches(): 4");
    }

    private static void branchProperties() {
        String three = "rectangle(0, 0, 0, 3, 3); rectangle(0, 3, 1, 1, 1); rectangle(0, 4, 0, 4, 4); "
                + "rectangle(0, 8, 1, 1, 2); rectangle(0, 9, 0, 3, 4); rectangle(0, 0, 5, 2, 2); ";
        hold(31, "`what`: 0 for the phase of its first component, 1 for the phase of its last component, 2 for the "
                + "number of the first component in its phase, 3 for the branch that ends with the parent of its "
                + "first component, -1 if it begins in phase 0, 4 for the number of branches into which it splits, 0 "
                + "if it vanishes, 5 for the greatest number of branches, including itself, on a way from it through "
                + "branches into which they split",
                States.LAST_CELL + "branch(0, 0): 0; branch(0, 1): 0; branch(0, 2): 0; branch(0, 3): -1; "
                        + "branch(0, 4): 0; branch(0, 5): 1",
                States.WHOLE + "branch(0, 0): 0; branch(0, 1): 11; branch(0, 2): 0; branch(0, 3): -1; "
                        + "branch(0, 4): 0; branch(0, 5): 1",
                Runs.checkerboard() + "branch(71, 0): 0; branch(71, 1): 0; branch(71, 2): 71; branch(71, 3): -1; "
                        + "branch(71, 4): 0; branch(71, 5): 1",
                three + "branches(): 6; branch(0, 0): 0; branch(0, 1): 0; branch(0, 3): -1; branch(0, 4): 2; "
                        + "branch(0, 5): 3; branch(1, 3): 0; branch(1, 4): 0; branch(1, 5): 1; branch(2, 1): 1; "
                        + "branch(2, 3): 0; branch(2, 5): 2; branch(3, 0): 2; branch(3, 1): 3; branch(3, 2): 1; "
                        + "branch(3, 3): 2; branch(3, 5): 1; branch(4, 2): 2; branch(4, 3): 2; branch(5, 2): 1; "
                        + "branch(5, 3): -1; branch(5, 5): 1",
                // the branch with the longest way comes last among three
                Runs.picture("..##...", "..##...", "#######", "##.#.##", "##...##") + "branch(0, 4): 3; "
                        + "branch(0, 5): 2; branch(1, 3): 0; branch(2, 3): 0; branch(3, 3): 0; branch(3, 2): 2; "
                        + "branch(3, 5): 1");
    }

    private static void branchRefused() {
        hold(31, "Throws `IndexOutOfBoundsException` if there is no such branch",
                States.each(strange("branch(", ", 0)", "index") + "branch(4, 0): throws index; "
                        + "branch(864, 5): throws index"));
        hold(31, "Throws `IndexOutOfBoundsException` if there is no such branch",
                "branch(0, 0): throws index",
                States.CLEARED + "branch(0, 0): throws index; branch(0, 3): throws index",
                States.RICH + "branch(3, 0): 0; branch(4, 0): throws index",
                States.FULL + "branch(0, 1): 11; branch(1, 0): throws index",
                Runs.checkerboard() + "branch(71, 2): 71; branch(72, 0): throws index");
        hold(31, "Throws `IllegalArgumentException` if what is not from 0 to 5",
                States.RICH + strange("branch(3, ", ")", "argument") + "branch(0, 6): throws argument; "
                        + "branch(3, 6): throws argument",
                States.FULL + strange("branch(0, ", ")", "argument") + "branch(0, 6): throws argument");
    }

    private static void clearance() {
        hold(32, "Returns the phase, or -1 if there is none.",
                "clearance(0, 0, 0, 0): -1; clearance(11, 11, 0, 0): -1",
                States.LAST_CELL + "clearance(11, 11, 11, 11): -1",
                States.WHOLE + "clearance(6, 6, 6, 6): 10; clearance(6, 6, 6, 5): 10; clearance(6, 6, 11, 6): 1; "
                        + "clearance(6, 6, 0, 6): -1; clearance(0, 6, 6, 6): -1; clearance(11, 11, 11, 11): 0; "
                        + "clearance(1, 0, 11, 11): 0; clearance(1, 1, 11, 1): 1; rectangle(1, 6, 6, 1, 1); "
                        + "clearance(6, 6, 6, 6): -1; clearance(6, 6, 1, 1): -1; clearance(1, 1, 6, 6): -1",
                States.ROOMS + "clearance(1, 1, 6, 1): 0; clearance(6, 1, 1, 1): 0; clearance(1, 1, 2, 1): 1; "
                        + "clearance(1, 1, 11, 11): -1; clearance(11, 11, 1, 1): -1; clearance(4, 1, 1, 1): 0",
                // in the last phase of all
                "rectangle(0, 0, 0, 2, 5); phases(): 2; clearance(1, 2, 1, 2): 1; clearance(1, 1, 1, 3): 1; "
                        + "clearance(1, 1, 1, 4): 0; clearance(1, 0, 1, 2): 0",
                // two components: each has a phase, but not a common one
                "rectangle(0, 0, 0, 3, 3); rectangle(0, 5, 0, 3, 3); clearance(1, 1, 6, 1): -1; "
                        + "clearance(6, 1, 6, 1): 1");
        hold(32, "Throws `IndexOutOfBoundsException` if a coordinate is not from 0 to 11",
                States.each("clearance(-1, 0, 0, 0): throws index; clearance(12, 0, 0, 0): throws index; "
                        + "clearance(0, -1, 0, 0): throws index; clearance(0, 12, 0, 0): throws index; "
                        + "clearance(0, 0, -1, 0): throws index; clearance(0, 0, 12, 0): throws index; "
                        + "clearance(0, 0, 0, -1): throws index; clearance(0, 0, 0, 12): throws index; "
                        + "clearance(11, 11, 12, 11): throws index; clearance(11, 12, 11, 11): throws index; "
                        + strange("clearance(", ", 1, 1, 1)", "index") + strange("clearance(1, ", ", 1, 1)", "index")
                        + strange("clearance(1, 1, ", ", 1)", "index")
                        + strange("clearance(1, 1, 1, ", ")", "index")));
    }

    private static void path() {
        hold(33, "Returns the number of steps, or -1 if there is no path.",
                States.ROOMS + "path(0, 1, 1, 6, 1): 20; path(0, 6, 1, 1, 1): 20; path(1, 1, 1, 6, 1): -1; "
                        + "path(1, 1, 1, 1, 1): 0; path(1, 1, 1, 2, 1): 4; path(0, 0, 1, 1, 1): -1; "
                        + "path(0, 1, 1, 0, 1): -1; path(2, 1, 1, 2, 1): -1; path(2, 6, 1, 1, 1): -1; "
                        + "path(0, 1, 1, 11, 11): -1; path(0, 11, 11, 1, 1): -1",
                States.WHOLE + "path(0, 1, 0, 11, 11): 84; path(0, 11, 11, 1, 0): 84; path(0, 1, 0, 1, 0): 0; "
                        + "path(0, 1, 0, 2, 0): 4; path(0, 1, 0, 1, 1): 4; path(11, 6, 6, 1, 1): -1; "
                        + "path(10, 6, 6, 6, 5): 4; path(0, 0, 0, 11, 11): -1",
                // round a wall, and through a winding corridor
                "rectangle(0, 0, 0, 5, 5); rectangle(1, 2, 1, 1, 4); path(0, 1, 4, 4, 4): 42; "
                        + "path(0, 1, 4, 1, 1): 12",
                Runs.picture("##.##.##", "##.##.##", "##.##.##", "########") + "path(0, 1, 3, 4, 3): 34; "
                        + "path(0, 1, 3, 7, 3): 46",
                Runs.picture("###.###", "#.#.#.#", "#.#.#.#", "#.###.#") + "path(0, 2, 3, 3, 0): 16",
                "rectangle(0, 0, 0, 3, 3); rectangle(0, 5, 0, 3, 3); path(0, 1, 1, 6, 1): -1; path(0, 1, 1, 2, 2): 8",
                // a longer walk before leaves nothing behind
                States.WHOLE + "path(0, 7, 1, 1, 1): 24; clear(); rectangle(0, 0, 0, 3, 3); "
                        + "rectangle(0, 5, 0, 3, 3); path(0, 1, 1, 6, 1): -1; path(0, 1, 1, 7, 1): -1; "
                        + "path(0, 1, 1, 2, 1): 4");
    }

    private static void pathRefused() {
        String cells = strange("path(0, ", ", 1, 1, 1)", "index") + strange("path(0, 1, ", ", 1, 1)", "index")
                + strange("path(0, 1, 1, ", ", 1)", "index") + strange("path(0, 1, 1, 1, ", ")", "index")
                + "path(0, 12, 0, 0, 0): throws index; path(0, 0, 12, 0, 0): throws index; "
                + "path(0, 0, 0, 12, 0): throws index; path(0, 0, 0, 0, 12): throws index; "
                + "path(0, 11, 11, 11, 12): throws index; ";
        hold(33, "Throws `IndexOutOfBoundsException` if there is no such phase, or a coordinate is not from 0 to 11",
                States.each(cells + strange("path(", ", 1, 1, 1, 1)", "index")
                        + "path(12, 1, 1, 1, 1): throws index"));
        hold(33, "Throws `IndexOutOfBoundsException` if there is no such phase, or a coordinate is not from 0 to 11",
                "path(0, 0, 0, 0, 0): throws index",
                States.CLEARED + "path(0, 4, 4, 4, 4): throws index",
                States.RICH + "path(2, 1, 1, 1, 1); path(3, 1, 1, 1, 1): throws index",
                States.FULL + "path(11, 0, 0, 11, 11): -1; path(12, 6, 6, 6, 6): throws index");
    }
}
