/** Promises 12 to 21: a test for each line that names a limit, a special case or an exception. */
public final class EdgesTest {
    private static final String LEAST = "-2147483648";
    private static final String MOST = "2147483647";

    private EdgesTest() {
    }

    public static void main(String[] args) {
        edges();
        edgeProperties();
        edgeRefused();
        corners();
        groups();
        groupProperties();
        groupRefused();
        symmetries();
        height();
        heightRefused();
        face();
        faceRefused();
        area();
        volume();
        Sentences.allLimitsHeld(12, 21);
        Check.finish("EdgesTest");
    }

    private static void hold(int promise, String words, String... runs) {
        Sentences.hold("Promise " + promise, words, runs);
    }

    /** The calls of a method with the same wrong arguments, but for one place that gets the strangest numbers. */
    static String strange(String before, String after, String thrown) {
        StringBuilder calls = new StringBuilder();
        for (String number : new String[] {LEAST, MOST, "-1", "65536", "-2147483647"}) {
            calls.append(before).append(number).append(after).append(": throws ").append(thrown).append("; ");
        }
        return calls.toString();
    }

    private static void edges() {
        hold(12, "Returns the number of edges.",
                "edges(): 0",
                States.WHOLE + "edges(): 4; rectangle(1, 5, 5, 1, 1); edges(): 8; clear(); edges(): 0; undo(); "
                        + "edges(): 8; undo(); edges(): 4",
                Runs.checkerboard() + "edges(): 288", "rectangle(0, 11, 11, 1, 1); edges(): 4",
                "rectangle(0, 0, 0, 1, 1); rectangle(0, 1, 0, 1, 1); edges(): 4; rectangle(0, 1, 1, 1, 1); "
                        + "edges(): 6");
    }

    private static void edgeProperties() {
        hold(13, "`what`: 0 for the direction, 1 for the line, 2 for low, 3 for high, 4 for the contour of phase 0, "
                + "5 for the number of cells in its face, 6 for the phase at which it becomes extinct",
                States.WHOLE + "edge(0, 0): 0; edge(0, 1): 0; edge(0, 2): 0; edge(0, 3): 12; edge(0, 4): 0; "
                        + "edge(0, 5): 36; edge(0, 6): 12; edge(3, 0): 3; edge(3, 1): 0; edge(3, 2): 0; "
                        + "edge(3, 3): 12; edge(3, 4): 0; edge(3, 5): 42; edge(3, 6): 12",
                "rectangle(0, 11, 11, 1, 1); edge(1, 0): 1; edge(1, 1): 12; edge(1, 2): 11; edge(1, 3): 12; "
                        + "edge(1, 4): 0; edge(1, 5): 0; edge(1, 6): 1; edge(3, 5): 1",
                States.RING + "edge(4, 0): 1; edge(4, 1): 3; edge(4, 2): 3; edge(4, 3): 4; edge(4, 4): 1; "
                        + "edge(4, 5): 3; edge(4, 6): 2; edge(7, 4): 1; edge(0, 4): 0",
                Runs.checkerboard() + "edge(0, 0): 0; edge(287, 0): 3; edge(287, 1): 11; edge(287, 2): 11; "
                        + "edge(287, 3): 12; edge(287, 4): 71; edge(287, 5): 1; edge(287, 6): 1; edge(286, 5): 0",
                States.ROOMS + "edge(2, 6): 1; edge(2, 5): 3; edge(0, 6): 3; edge(11, 0): 3; edge(11, 5): 4");
    }

    private static void edgeRefused() {
        hold(13, "Throws `IndexOutOfBoundsException` if there is no such edge",
                States.each(strange("edge(", ", 0)", "index") + "edge(288, 0): throws index; "
                        + "edge(340, 6): throws index"));
        hold(13, "Throws `IndexOutOfBoundsException` if there is no such edge",
                "edge(0, 0): throws index; edge(0, 6): throws index",
                States.CLEARED + "edge(0, 0): throws index",
                States.RICH + "edge(19, 0): 2; edge(20, 0): throws index; edge(20, 6): throws index",
                States.FULL + "edge(3, 0): 3; edge(4, 0): throws index",
                Runs.checkerboard() + "edge(288, 0): throws index",
                States.WHOLE + "rectangle(1, 5, 5, 1, 1); edge(7, 0): 2; undo(); edge(7, 0): throws index; "
                        + "edge(4, 0): throws index");
        hold(13, "Throws `IllegalArgumentException` if what is not from 0 to 6",
                States.RICH + strange("edge(0, ", ")", "argument") + "edge(0, 7): throws argument; "
                        + "edge(19, 7): throws argument",
                States.FULL + strange("edge(3, ", ")", "argument") + "edge(3, 7): throws argument; edge(3, 6): 12");
    }

    private static void corners() {
        hold(14, "Returns the number of different points that are ends of edges.",
                "corners(): 0",
                States.WHOLE + "corners(): 4; rectangle(1, 5, 5, 1, 1); corners(): 8; undo(); corners(): 4",
                "rectangle(0, 11, 11, 1, 1); corners(): 4",
                "rectangle(0, 0, 0, 1, 1); rectangle(0, 1, 1, 1, 1); corners(): 7; rectangle(0, 1, 0, 1, 1); "
                        + "corners(): 6; rectangle(0, 0, 1, 1, 1); corners(): 4",
                "rectangle(0, 1, 0, 1, 1); rectangle(0, 0, 1, 1, 1); corners(): 7",
                Runs.checkerboard() + "corners(): 167",
                // a corner of another edge within the line of an edge, and edges that go on in one line
                Runs.picture("##.", "###", "##.") + "corners(): 8",
                Runs.picture("#.#", "###") + "corners(): 8", States.ELL + "corners(): 6",
                States.RING + "corners(): 8");
    }

    private static void groups() {
        hold(15, "Returns the number of groups of edges with the same direction and the same line.",
                "groups(): 0",
                States.WHOLE + "groups(): 4; clear(); groups(): 0",
                States.ROOMS + "groups(): 8; edges(): 12",
                Runs.checkerboard() + "groups(): 48; edges(): 288",
                "rectangle(0, 0, 0, 1, 1); groups(): 4; rectangle(0, 11, 11, 1, 1); groups(): 8; "
                        + "rectangle(0, 11, 0, 1, 1); groups(): 8; rectangle(0, 0, 11, 1, 1); groups(): 8; "
                        + "edges(): 16",
                // an upper and a lower side on one line are two groups
                "rectangle(0, 0, 0, 1, 1); rectangle(0, 3, 1, 1, 1); groups(): 8; edge(2, 1): 1; edge(4, 1): 1");
    }

    private static void groupProperties() {
        hold(16, "Groups are numbered from 0 in the order of their edges with the lowest numbers.",
                States.ROOMS + "group(0, 0): 0; group(0, 1): 0; group(1, 0): 1; group(1, 1): 3; group(2, 0): 0; "
                        + "group(2, 1): 1; group(3, 0): 3; group(3, 1): 5; group(4, 0): 1; group(4, 1): 8; "
                        + "group(5, 0): 2; group(5, 1): 3; group(6, 0): 2; group(6, 1): 2; group(7, 0): 3; "
                        + "group(7, 1): 0; group(8, 0): throws index",
                Runs.picture("..#", "#..") + "group(0, 1): 0; group(3, 0): 3; group(4, 0): 0; group(4, 1): 1; "
                        + "group(7, 0): 3; group(7, 1): 2; group(8, 0): throws index");
        hold(16, "`what`: 0 for the direction, 1 for the line, 2 for the number of edges, 3 for the sum of their "
                + "lengths",
                "rectangle(0, 11, 11, 1, 1); group(0, 0): 0; group(0, 1): 11; group(0, 2): 1; group(0, 3): 1; "
                        + "group(1, 0): 1; group(1, 1): 12; group(2, 0): 2; group(2, 1): 12; group(3, 0): 3; "
                        + "group(3, 1): 11; group(3, 3): 1",
                States.WHOLE + "group(0, 3): 12; group(1, 1): 12; group(3, 1): 0; group(3, 2): 1; group(3, 3): 12",
                States.ROOMS + "group(0, 2): 2; group(0, 3): 6; group(1, 2): 2; group(1, 3): 2; group(4, 2): 1; "
                        + "group(4, 3): 3; group(6, 2): 1; group(6, 3): 2",
                Runs.checkerboard() + "group(0, 2): 6; group(0, 3): 6; group(47, 0): 2; group(47, 1): 12; "
                        + "group(47, 2): 6; group(47, 3): 6; group(48, 0): throws index");
    }

    private static void groupRefused() {
        hold(16, "Throws `IndexOutOfBoundsException` if there is no such group",
                States.each(strange("group(", ", 0)", "index") + "group(52, 0): throws index; "
                        + "group(53, 3): throws index"));
        hold(16, "Throws `IndexOutOfBoundsException` if there is no such group",
                "group(0, 0): throws index; group(0, 3): throws index",
                States.RICH + "group(14, 0): 2; group(15, 0): throws index; group(15, 3): throws index",
                States.FULL + "group(3, 0): 3; group(4, 0): throws index",
                States.ROOMS + "group(7, 3): 3; clear(); group(0, 0): throws index; group(7, 3): throws index");
        hold(16, "Throws `IllegalArgumentException` if what is not from 0 to 3",
                States.RICH + strange("group(0, ", ")", "argument") + "group(0, 4): throws argument; "
                        + "group(14, 4): throws argument",
                States.FULL + strange("group(3, ", ")", "argument") + "group(3, 4): throws argument");
    }

    private static void symmetries() {
        hold(17, "Returns by how many of the 8 rotations and reflections of the plane that map a grid of cells to "
                + "itself the region is mapped to a translated copy of itself.",
                // all; both axes; both diagonals; turns alone; a half turn alone; one axis; one diagonal; none
                "rectangle(0, 4, 5, 3, 3); symmetries(): 8", "rectangle(0, 4, 5, 3, 2); symmetries(): 4",
                "rectangle(0, 0, 0, 2, 2); rectangle(0, 2, 2, 2, 2); symmetries(): 4",
                Runs.picture(".#..", ".###", "###.", "..#.") + "symmetries(): 4",
                Runs.picture("##.", ".##") + "symmetries(): 2",
                Runs.picture("##.", ".#.", ".##") + "symmetries(): 2",
                Runs.picture("###", ".#.") + "symmetries(): 2",
                Runs.picture("##", "#.", "##") + "symmetries(): 2",
                Runs.picture("##", "#.") + "symmetries(): 2", Runs.picture("##", ".#") + "symmetries(): 2",
                Runs.picture("##", "#.", "#.") + "symmetries(): 1",
                Runs.picture("##.#", ".###") + "symmetries(): 1");
        hold(17, "Returns the number, 1 to 8; 8 for the empty region.",
                "symmetries(): 8",
                States.WHOLE + "symmetries(): 8; clear(); symmetries(): 8",
                States.CLEARED + "symmetries(): 8",
                States.WHOLE + "rectangle(1, 0, 0, 1, 1); symmetries(): 2; rectangle(1, 11, 11, 1, 1); "
                        + "symmetries(): 4; rectangle(1, 0, 11, 1, 1); symmetries(): 2; rectangle(1, 11, 0, 1, 1); "
                        + "symmetries(): 8; rectangle(1, 1, 0, 1, 1); symmetries(): 1",
                Runs.checkerboard() + "symmetries(): 4",
                Runs.checkerboard() + "rectangle(1, 0, 0, 12, 1); rectangle(1, 11, 0, 1, 12); symmetries(): 8");
    }

    private static void height() {
        hold(18, "`x`: the first coordinate, multiplied by 8, 0 to 96",
                States.WHOLE + "height(0, 48): 0; height(96, 48): 0; height(1, 48): 1; height(95, 48): 1; "
                        + "height(47, 48): 47; height(30, 60): 30; height(60, 30): 30; height(48, 48): 48",
                "height(0, 0): 0; height(96, 0): 0; height(0, 96): 0; height(96, 96): 0");
        hold(18, "`y`: the second coordinate, multiplied by 8, 0 to 96",
                States.WHOLE + "height(48, 0): 0; height(48, 96): 0; height(48, 1): 1; height(48, 95): 1",
                "rectangle(0, 2, 9, 4, 1); height(32, 76): 4; height(76, 32): 0; height(32, 73): 1; "
                        + "height(17, 76): 1");
        hold(18, "Returns the height, multiplied by 8.",
                "rectangle(0, 5, 5, 1, 1); height(44, 44): 4; height(41, 44): 1; height(42, 44): 2; "
                        + "height(43, 44): 3; height(45, 44): 3; height(40, 44): 0; height(48, 44): 0",
                // limited by cells that touch by a corner, or by a side, or by the grid
                States.ELL + "height(28, 36): 4; height(24, 24): 8; height(40, 36): 4; height(56, 24): 8; "
                        + "height(29, 37): 3; height(31, 33): 7; height(33, 31): 9; height(25, 33): 7");
    }

    private static void heightRefused() {
        hold(18, "Throws `IndexOutOfBoundsException` if a coordinate is out of range",
                States.each("height(-1, 48): throws index; height(97, 48): throws index; "
                        + "height(48, -1): throws index; height(48, 97): throws index; height(96, 97): throws index; "
                        + "height(97, 96): throws index; " + strange("height(", ", 48)", "index")
                        + strange("height(48, ", ")", "index")));
    }

    private static void face() {
        hold(19, "Returns the edge, or -1 if the cell does not belong to the region.",
                "face(0, 0): -1; face(11, 11): -1; rectangle(0, 11, 11, 1, 1); face(11, 11): 3; face(10, 11): -1; "
                        + "face(11, 10): -1; rectangle(0, 0, 0, 1, 1); face(0, 0): 3; face(11, 11): 7",
                States.WHOLE + "face(0, 0): 3; face(11, 0): 0; face(0, 11): 3; face(11, 11): 2; face(1, 0): 0; "
                        + "face(11, 5): 1; rectangle(1, 5, 5, 1, 1); face(5, 5): -1; face(4, 5): 4; face(5, 6): 5; "
                        + "face(6, 5): 6; face(5, 4): 7; clear(); face(0, 0): -1; undo(); face(5, 4): 7",
                States.RING + "face(3, 3): -1; face(0, 0): -1; face(1, 1): 3; face(2, 3): 4; face(4, 3): 6; "
                        + "face(3, 2): 7; face(3, 4): 5; face(5, 5): 2");
        hold(19, "Returns the edge to whose face a cell belongs.",
                States.ELL + "face(2, 2): 5; face(3, 2): 0; face(7, 2): 0; face(7, 3): 1; face(7, 4): 2; "
                        + "face(3, 7): 3; face(2, 7): 5; face(3, 9): 4; face(2, 9): 5");
    }

    private static void faceRefused() {
        hold(19, "Throws `IndexOutOfBoundsException` if x or y is not from 0 to 11",
                States.each("face(-1, 0): throws index; face(12, 0): throws index; face(0, -1): throws index; "
                        + "face(0, 12): throws index; face(12, 11): throws index; face(11, 12): throws index; "
                        + "face(-1, 1): throws index; face(12, -1): throws index; "
                        + strange("face(", ", 5)", "index") + strange("face(5, ", ")", "index")));
    }

    private static void area() {
        hold(20, "`halves`: the distance, multiplied by 2, 0 to 24",
                "area(0): 0; area(24): 0",
                States.WHOLE + "area(0): 576; area(24): 0; area(1): 484; area(2): 400; area(10): 16; area(11): 4; "
                        + "area(12): 0; area(13): 0; area(23): 0",
                "rectangle(0, 0, 0, 1, 1); area(0): 4; area(1): 0; area(2): 0; area(24): 0");
        hold(20, "Returns the area, multiplied by 4.",
                "rectangle(0, 0, 0, 3, 2); area(0): 24; area(1): 8; area(2): 0",
                States.RING + "area(0): 96; area(1): 48; area(2): 0",
                States.ROOMS + "area(0): 80; area(1): 32; area(2): 8; area(3): 0",
                "rectangle(0, 0, 0, 1, 1); rectangle(0, 1, 1, 1, 1); area(0): 8; area(1): 0",
                Runs.checkerboard() + "area(0): 288; area(1): 0");
        hold(20, "Throws `IllegalArgumentException` if the distance is out of range",
                States.each("area(-1): throws argument; area(25): throws argument; area(26): throws argument; "
                        + strange("area(", ")", "argument")));
    }

    private static void volume() {
        hold(21, "Returns the volume, multiplied by 48, which is an integer.",
                "volume(): 0", "rectangle(0, 11, 11, 1, 1); volume(): 8",
                States.WHOLE + "volume(): 13824; clear(); volume(): 0; undo(); volume(): 13824",
                // a ridge: 2 by 1 has half a cell's pyramid at each end and 1/4 between
                "rectangle(0, 0, 0, 2, 1); volume(): 20", "rectangle(0, 0, 0, 2, 2); volume(): 64",
                "rectangle(0, 0, 0, 3, 3); volume(): 216", States.RING + "volume(): 576",
                Runs.checkerboard() + "volume(): 576",
                "rectangle(0, 0, 0, 1, 1); rectangle(0, 1, 1, 1, 1); volume(): 16; rectangle(0, 1, 0, 1, 1); "
                        + "volume(): 32");
        hold(21, "Returns the volume under the roof, which is the integral of the height.",
                "rectangle(0, 0, 0, 12, 1); volume(): 140", States.ELL + "volume(): 780");
    }
}
