/** A test for each sentence of the description, its examples and what is in doubt. */
public final class DescriptionTest {
    /** Every method that can throw, refused in every way that the rich state has. */
    private static final String ALL_REFUSED = "rectangle(3, 0, 0, 1, 1): throws argument; "
            + "rectangle(0, 12, 0, 1, 1): throws index; append(1): throws argument; "
            + "contains(12, 0): throws index; edge(20, 0): throws index; edge(0, 7): throws argument; "
            + "group(-1, 0): throws index; group(0, 4): throws argument; height(97, 0): throws index; "
            + "face(0, 12): throws index; area(25): throws argument; phase(3, 0): throws index; "
            + "phase(0, 8): throws argument; contour(0, 3, 0): throws index; contour(0, 0, 4): throws argument; "
            + "vertex(0, 0, 12, 0): throws index; vertex(0, 0, 0, 2): throws argument; "
            + "origin(0, 0, 12, 0): throws index; origin(0, 0, 0, 3): throws argument; "
            + "component(3, 0, 0): throws index; event(3, 0): throws index; event(0, 7): throws argument; "
            + "branch(4, 0): throws index; branch(0, 6): throws argument; clearance(0, 0, 0, 12): throws index; "
            + "path(3, 0, 0, 0, 0): throws index; count(4): throws argument";

    private DescriptionTest() {
    }

    public static void main(String[] args) {
        wholeObject();
        refusedCalls();
        firstException();
        region();
        heights();
        phases();
        phaseNumbers();
        components();
        contours();
        sides();
        edges();
        wavefronts();
        merging();
        samples();
        faces();
        events();
        branches();
        branchNumbers();
        text();
        commands();
        errors();
        changes();
        undoing();
        inDoubt();
        inDoubtOfText();
        inDoubtOfPoints();
        examples();
        Sentences.allClausesHeld("Region", "Heights", "Phases", "Components and contours", "Edges", "Wavefronts",
                "Samples and faces", "Events", "Branches", "Text", "Changes", "In doubt");
        Check.finish("DescriptionTest");
    }

    private static void wholeObject() {
        Sentences.hold("What it is", "An object is used for at most 512 calls after it has been made",
                Runs.times(250, "rectangle(2, 0, 0, 12, 12); phases()") + "undo(): 7; phases(): 12; undo(): 6; "
                        + "phases(): 0; redo(): 1; phases(): 12; redo(): 0; undo(): 7; undo(): 6; undo(): 5; "
                        + "volume(): 13824; corners(): 4",
                Runs.times(128, "append('m;'): 2; execute(): 1; errorPosition(): -1; count(3): 0"),
                Runs.times(128, "append('+0,0'): 4; execute(): throws argument; errorPosition(): 4; count(3): 0"),
                Runs.times(503, "rectangle(2, 0, 0, 1, 1)") + "undo(): 7; undo(): 6; undo(): 5; undo(): 4; undo(): 3; "
                        + "undo(): 2; undo(): 1; undo(): 0; count(0): 1",
                Runs.times(256, "save(): 0; restore(): 0"),
                "rectangle(0, 0, 0, 12, 12); " + Runs.times(255, "rectangle(2, 5, 5, 1, 1); path(0, 1, 1, 11, 11)")
                        + "clearance(5, 5, 5, 5): -1");
    }

    private static void refusedCalls() {
        Sentences.hold("Description", "A method that throws an exception leaves the state unchanged, unless its "
                + "description says otherwise.",
                States.RICH + ALL_REFUSED,
                States.FULL + "append('m'): throws state; redo(): throws state; "
                        + "rectangle(0, 0, 0, 13, 1): throws index",
                "undo(): throws state; redo(): throws state; restore(): throws state; edge(0, 0): throws index; "
                        + "phase(0, 0): throws index; event(0, 0): throws index; branch(0, 0): throws index",
                States.CLEARED + "redo(): throws state; restore(): throws state; group(0, 0): throws index; "
                        + "component(0, 3, 3): throws index; path(0, 3, 3, 3, 3): throws index",
                States.RICH + "execute(): throws argument; errorPosition(): 7; count(3): 0; count(0): 44; "
                        + "count(1): 5; count(2): 2",
                States.FULL + "append('x'): throws state; execute(): 30; errorPosition(): -1");
        for (Call call : Call.parse(ALL_REFUSED)) {
            Sentences.hold("Description", "A method that throws an exception leaves the state unchanged",
                    States.RICH + call + ": " + call.due());
        }
    }

    private static void firstException() {
        Sentences.hold("Description", "If several exceptions are possible, the one listed first in the description "
                + "of the method is thrown.",
                States.RICH + "rectangle(3, 12, 0, 1, 1): throws argument",
                States.RICH + "rectangle(-1, -1, -1, 0, 13): throws argument",
                States.FULL + "append(1): throws argument",
                States.FULL + "append(0x6d6d6d20): throws argument",
                States.RICH + "edge(20, 7): throws index", States.RICH + "edge(-1, -1): throws index",
                States.RICH + "group(15, 4): throws index", States.RICH + "phase(3, 8): throws index",
                States.RICH + "contour(3, 0, 4): throws index",
                States.RICH + "contour(0, 3, -1): throws index",
                States.RICH + "vertex(3, 0, 0, 2): throws index",
                States.RICH + "vertex(0, 3, 0, 2): throws index",
                States.RICH + "vertex(0, 0, 12, 2): throws index",
                States.RICH + "origin(3, 0, 0, 3): throws index",
                States.RICH + "origin(0, 3, 0, 3): throws index",
                States.RICH + "origin(0, 0, 12, 3): throws index",
                States.RICH + "event(3, 7): throws index", States.RICH + "branch(4, 6): throws index",
                "edge(0, 7): throws index; group(0, 4): throws index; phase(0, 8): throws index; "
                        + "contour(0, 0, 4): throws index; vertex(0, 0, 0, 2): throws index; "
                        + "origin(0, 0, 0, 3): throws index; event(0, 7): throws index; branch(0, 6): throws index");
    }

    private static void region() {
        Sentences.hold("Region", "The plane has a grid of 12 by 12 unit cells;",
                "rectangle(0, 0, 0, 12, 12): 144; contains(0, 0): true; contains(11, 11): true; "
                        + "contains(11, 0): true; contains(0, 11): true; contains(12, 11): throws index; "
                        + "contains(11, 12): throws index; contains(-1, 0): throws index; "
                        + "contains(0, -1): throws index");
        Sentences.hold("Region", "cell (x, y), with x and y from 0 to 11, is the square from x to x + 1 and from y "
                + "to y + 1.",
                "rectangle(0, 11, 11, 1, 1): 1; edge(0, 1): 11; edge(0, 2): 11; edge(0, 3): 12; edge(1, 1): 12; "
                        + "edge(2, 1): 12; edge(3, 1): 11; height(92, 92): 4; height(89, 92): 1; height(95, 92): 1; "
                        + "height(88, 92): 0; height(92, 88): 0",
                "rectangle(0, 0, 0, 1, 1): 1; edge(0, 1): 0; edge(0, 2): 0; edge(0, 3): 1; edge(1, 1): 1; "
                        + "edge(2, 1): 1; edge(3, 1): 0; height(4, 4): 4; height(1, 7): 1; height(8, 4): 0");
        Sentences.hold("Region", "East is the direction of increasing x, north that of increasing y.",
                "rectangle(0, 3, 5, 2, 1); edge(0, 0): 0; vertex(0, 0, 0, 0): 13; vertex(0, 0, 1, 0): 19; "
                        + "vertex(0, 0, 1, 1): 21; edge(1, 0): 1; vertex(0, 0, 2, 0): 19; vertex(0, 0, 2, 1): 23");
        Sentences.hold("Region", "The region is a set of cells, empty at first.",
                "count(0): 0; contains(0, 0): false; contains(11, 11): false; contains(5, 6): false; edges(): 0; "
                        + "phases(): 0; height(48, 48): 0; clear(): 0",
                "rectangle(0, 5, 5, 1, 1): 1; rectangle(0, 5, 5, 1, 1): 1; rectangle(1, 5, 5, 1, 1): 0; "
                        + "rectangle(1, 5, 5, 1, 1): 0");
        Sentences.hold("Region", "Nothing outside the grid belongs to the region.",
                "rectangle(0, 0, 0, 12, 12); edges(): 4; edge(0, 1): 0; edge(1, 1): 12; edge(2, 1): 12; "
                        + "edge(3, 1): 0; height(0, 48): 0; height(48, 0): 0; height(96, 48): 0; height(48, 96): 0; "
                        + "height(1, 48): 1; height(48, 1): 1; height(95, 48): 1; height(48, 95): 1; phases(): 12; "
                        + "area(0): 576; phase(0, 6): 184");
    }

    private static void heights() {
        Sentences.hold("Heights", "The height of a point is the greatest r such that the open axis-parallel square "
                + "with this point as its center and with the side length 2 * r consists only of points of cells of "
                + "the region;",
                "rectangle(0, 4, 4, 3, 3); height(44, 44): 12; height(43, 44): 11; height(44, 45): 11; "
                        + "height(40, 48): 8; height(33, 44): 1; height(55, 44): 1; height(44, 33): 1; "
                        + "height(44, 55): 1; height(36, 52): 4",
                States.ELL + "height(28, 28): 12; height(31, 39): 1; height(24, 40): 8; height(24, 36): 8; "
                        + "height(33, 39): 1; height(32, 40): 0; height(31, 41): 1",
                "rectangle(0, 0, 0, 12, 12); rectangle(1, 5, 5, 1, 1); height(36, 36): 4; height(56, 56): 8; "
                        + "height(48, 56): 8; height(49, 49): 1; height(47, 60): 12; height(24, 20): 20; "
                        + "height(60, 36): 12; height(20, 80): 16");
        Sentences.hold("Heights", "it is 0 for points outside the region or on its boundary.",
                "height(0, 0): 0; height(96, 96): 0; height(48, 48): 0",
                "rectangle(0, 2, 2, 1, 1); height(0, 0): 0; height(8, 20): 0; height(28, 20): 0; height(15, 20): 0; "
                        + "height(25, 20): 0; height(20, 15): 0; height(20, 25): 0; height(96, 0): 0",
                "rectangle(0, 2, 2, 1, 1); height(16, 20): 0; height(24, 20): 0; height(20, 16): 0; "
                        + "height(20, 24): 0; height(16, 16): 0; height(24, 24): 0; height(16, 24): 0; "
                        + "height(24, 16): 0; height(17, 20): 1; height(23, 20): 1; height(20, 17): 1; "
                        + "height(20, 23): 1",
                States.CORNERS + "height(8, 8): 0; height(7, 7): 1; height(9, 9): 1; height(7, 9): 0; "
                        + "height(9, 7): 0",
                States.RING + "height(24, 28): 0; height(32, 28): 0; height(28, 28): 0; height(24, 24): 0; "
                        + "height(23, 23): 1");
        Sentences.hold("Heights", "This is the height of the roof that rises from all edges of the region with the "
                + "same slope.",
                "rectangle(0, 0, 0, 12, 12); height(0, 48): 0; height(1, 48): 1; height(24, 48): 24; "
                        + "height(47, 48): 47; height(48, 48): 48; height(49, 48): 47; height(48, 1): 1; "
                        + "height(48, 95): 1; height(48, 72): 24");
    }

    private static void phases() {
        Sentences.hold("Phases", "The offset of the region by a distance t is the set of points whose height is "
                + "greater than t.",
                "rectangle(0, 0, 0, 4, 2); area(0): 32; area(1): 12; area(2): 0; area(3): 0; area(24): 0",
                "rectangle(0, 0, 0, 12, 12); area(11): 4; area(12): 0",
                "area(0): 0; area(24): 0");
        Sentences.hold("Phases", "Its combinatorial structure can change only when t is a positive multiple of 1/2.",
                "rectangle(0, 0, 0, 1, 12); phases(): 1; event(0, 0): 1; rectangle(0, 0, 0, 2, 12); phases(): 2; "
                        + "event(0, 0): 2; rectangle(0, 0, 0, 3, 12); phases(): 3; event(0, 0): 3; "
                        + "rectangle(0, 0, 0, 11, 12); phases(): 11; event(0, 0): 11",
                States.ROOMS + "phase(0, 4): 12; phase(1, 4): 8; phase(2, 4): 8");
        Sentences.hold("Phases", "Phase k, with k from 0 on, is the offset by k / 2 + 1/4.",
                "rectangle(0, 1, 1, 4, 4); phase(0, 0): 196; phase(1, 0): 100; phase(2, 0): 36; phase(3, 0): 4; "
                        + "vertex(0, 0, 0, 0): 5; vertex(1, 0, 0, 0): 7; vertex(2, 0, 0, 0): 9; "
                        + "vertex(3, 0, 0, 0): 11; phase(4, 0): throws index; phase(-1, 0): throws index");
        Sentences.hold("Phases", "It consists of quarter cells, which are the squares with the side length 1/4 into "
                + "which the unit cells are divided, 4 by 4 each.",
                "rectangle(0, 0, 0, 1, 1); phase(0, 0): 4; vertex(0, 0, 0, 0): 1; vertex(0, 0, 2, 0): 3",
                "rectangle(0, 0, 0, 12, 12); phase(0, 0): 2116; phase(11, 0): 4");
    }

    private static void phaseNumbers() {
        Sentences.hold("Phases", "The number of phases is the number of phases that are not empty;",
                "phases(): 0; rectangle(0, 0, 0, 1, 1); phases(): 1; rectangle(0, 0, 0, 2, 2); phases(): 2; clear(); "
                        + "phases(): 0; undo(); phases(): 2",
                "rectangle(0, 0, 0, 12, 12); phases(): 12; phase(11, 0): 4; phase(11, 1): 1");
        Sentences.hold("Phases", "they are the phases 0, 1, 2 and so on.",
                "phase(0, 0): throws index",
                "rectangle(0, 0, 0, 1, 1); phase(0, 1): 1; phase(1, 1): throws index; phase(-1, 1): throws index",
                "rectangle(0, 0, 0, 12, 12); phase(0, 1): 1; phase(11, 1): 1; phase(12, 1): throws index");
        Sentences.hold("Phases", "Lengths and coordinates in phases are given in quarters, that is, multiplied by 4.",
                "rectangle(0, 11, 11, 1, 1); vertex(0, 0, 0, 0): 45; vertex(0, 0, 0, 1): 45; vertex(0, 0, 2, 0): 47; "
                        + "vertex(0, 0, 2, 1): 47; phase(0, 6): 8; contour(0, 0, 3): 8",
                "rectangle(0, 0, 0, 12, 12); vertex(0, 0, 2, 0): 47; contour(0, 0, 3): 184; phase(11, 6): 8");
    }

    private static void components() {
        Sentences.hold("Components and contours", "The components of a phase are the maximal sets of its quarter "
                + "cells that are connected by common sides.",
                States.CORNERS + "phase(0, 1): 2; rectangle(0, 1, 0, 1, 1); phase(0, 1): 1",
                "rectangle(0, 1, 0, 1, 1); rectangle(0, 0, 1, 1, 1); phase(0, 1): 2; component(0, 1, 0): -1",
                Runs.checkerboard() + "phase(0, 1): 72; phase(0, 2): 72; phase(0, 4): 288; phases(): 1",
                States.ROOMS + "phase(0, 1): 1; phase(1, 1): 2; component(0, 1, 1): 0; component(0, 6, 1): 0; "
                        + "component(1, 1, 1): 0; component(1, 6, 1): 1",
                // a winding corridor and a U: connected only after a way back down or up
                Runs.picture("###.###", "#.#.#.#", "#.#.#.#", "#.###.#") + "phase(0, 1): 1; phase(0, 2): 1",
                Runs.picture("#.#.#", "#####", "#.#.#") + "phase(0, 1): 1");
        Sentences.hold("Components and contours", "They are numbered from 0 in the order of their first quarter "
                + "cells, where quarter cells are ordered by y and then by x.",
                Runs.picture("##...##", "##...##", ".......", "...##..", "...##..") + "component(0, 4, 0): 0; "
                        + "component(0, 1, 3): 1; component(0, 6, 3): 2; phase(0, 1): 3",
                Runs.picture("##.##") + "component(0, 1, 0): 0; component(0, 4, 0): 1",
                Runs.picture("######", "#....#", "#.##.#", "....##") + "component(0, 5, 0): 0; "
                        + "component(0, 3, 1): 1; component(0, 1, 3): 0",
                // the foot comes first in phase 0 alone
                Runs.picture("......###", "###...###", "###...###", "###....#.", ".......#.")
                        + "component(0, 8, 3): 0; component(0, 1, 2): 1; component(1, 7, 3): 1; "
                        + "component(1, 1, 2): 0");
    }

    private static void contours() {
        Sentences.hold("Components and contours", "The contours of a phase are the closed curves that bound it.",
                States.RING + "phase(0, 2): 2; phase(0, 3): 1",
                Runs.picture("#####", "#...#", "#.#.#", "#...#", "#####") + "phase(0, 2): 3; phase(0, 3): 1",
                States.ROOMS + "phase(0, 2): 1; phase(1, 2): 2; phase(1, 3): 0",
                "rectangle(0, 0, 0, 12, 12); phase(0, 2): 1; phase(11, 2): 1; phase(11, 3): 0");
        Sentences.hold("Components and contours", "A contour is traversed such that the offset is on the left;",
                States.RING + "vertex(0, 0, 0, 0): 5; vertex(0, 0, 0, 1): 5; vertex(0, 0, 1, 0): 23; "
                        + "vertex(0, 0, 1, 1): 5; vertex(0, 0, 3, 0): 5; vertex(0, 0, 3, 1): 23");
        Sentences.hold("Components and contours", "so an outer contour runs counterclockwise and the contour of a "
                + "hole clockwise.",
                States.RING + "vertex(0, 0, 2, 0): 23; vertex(0, 0, 2, 1): 23; vertex(0, 1, 0, 0): 11; "
                        + "vertex(0, 1, 0, 1): 11; vertex(0, 1, 1, 0): 11; vertex(0, 1, 1, 1): 17; "
                        + "vertex(0, 1, 2, 0): 17; vertex(0, 1, 2, 1): 17; vertex(0, 1, 3, 0): 17; "
                        + "vertex(0, 1, 3, 1): 11");
        Sentences.hold("Components and contours", "The first vertex of a contour is the one with the least y, among "
                + "ties with the least x.",
                Runs.picture("####", "#..#", "#..#") + "phase(0, 2): 1; vertex(0, 0, 0, 0): 1; "
                        + "vertex(0, 0, 0, 1): 1; vertex(0, 0, 1, 0): 3",
                Runs.picture("####", "#..#", "...#") + "vertex(0, 0, 0, 0): 13; vertex(0, 0, 0, 1): 1",
                Runs.picture("#######", "#######", "##...##", "##.#.##", "#######", "#######")
                        + "vertex(0, 1, 0, 0): 7; vertex(0, 1, 0, 1): 7; vertex(0, 1, 1, 0): 7; "
                        + "vertex(0, 1, 1, 1): 17",
                Runs.picture("#######", "#######", "##...##", "####.##", "#######", "#######")
                        + "vertex(0, 1, 0, 0): 15; vertex(0, 1, 0, 1): 7; vertex(0, 1, 1, 0): 15; "
                        + "vertex(0, 1, 1, 1): 11");
        Sentences.hold("Components and contours", "Contours are numbered from 0 in the order of their first "
                + "vertices, by y and then by x.",
                Runs.picture("###.###", "#.#.#.#", "###.###") + "phase(0, 2): 4; contour(0, 0, 1): 0; "
                        + "contour(0, 1, 1): 0; contour(0, 2, 1): 1; contour(0, 3, 1): 1; contour(0, 0, 2): 0; "
                        + "contour(0, 1, 2): 1; contour(0, 2, 2): 0; contour(0, 3, 2): 1; vertex(0, 2, 0, 0): 3; "
                        + "vertex(0, 3, 0, 0): 19",
                Runs.picture("....##", "....##", "......", "###...", "#.#...", "###...") + "contour(0, 1, 1): 1; "
                        + "contour(0, 2, 1): 0; contour(0, 2, 2): 1; vertex(0, 2, 0, 1): 17");
    }

    private static void sides() {
        Sentences.hold("Components and contours", "The vertices of a contour are numbered from 0 in the direction of "
                + "traversal.",
                States.ELL + "contour(0, 0, 0): 6; vertex(0, 0, 0, 0): 9; vertex(0, 0, 0, 1): 9; "
                        + "vertex(0, 0, 1, 0): 31; vertex(0, 0, 1, 1): 9; vertex(0, 0, 2, 0): 31; "
                        + "vertex(0, 0, 2, 1): 19; vertex(0, 0, 3, 0): 15; vertex(0, 0, 3, 1): 19; "
                        + "vertex(0, 0, 4, 0): 15; vertex(0, 0, 4, 1): 39; vertex(0, 0, 5, 0): 9; "
                        + "vertex(0, 0, 5, 1): 39; vertex(0, 0, 6, 0): throws index; "
                        + "vertex(0, 0, -1, 0): throws index");
        Sentences.hold("Components and contours", "Side i of a contour leads from vertex i to the next vertex.",
                // the last side leads back to vertex 0: it is the west side of the cell
                "rectangle(0, 3, 4, 1, 2); vertex(0, 0, 3, 0): 13; vertex(0, 0, 3, 1): 23; vertex(0, 0, 0, 0): 13; "
                        + "vertex(0, 0, 0, 1): 17; origin(0, 0, 3, 1): 3; edge(3, 0): 3; edge(3, 1): 3; "
                        + "edge(3, 2): 4; edge(3, 3): 6; origin(0, 0, 4, 0): throws index",
                States.RING + "origin(0, 1, 0, 1): 4; edge(4, 0): 1; origin(0, 1, 3, 1): 7; edge(7, 0): 2; "
                        + "origin(0, 1, 4, 0): throws index");
        Sentences.hold("Components and contours", "The direction of a side is 0 for east, 1 for north, 2 for west, 3 "
                + "for south;",
                States.ELL + "edge(0, 0): 0; edge(1, 0): 1; edge(2, 0): 2; edge(3, 0): 1; edge(4, 0): 2; "
                        + "edge(5, 0): 3",
                States.RING + "edge(4, 0): 1; edge(5, 0): 0; edge(6, 0): 3; edge(7, 0): 2");
        Sentences.hold("Components and contours", "its line is the common coordinate of its two ends, and its low "
                + "and high are the lesser and the greater one of their other coordinates.",
                States.ELL + "edge(0, 1): 2; edge(0, 2): 2; edge(0, 3): 8; edge(1, 1): 8; edge(1, 2): 2; "
                        + "edge(1, 3): 5; edge(2, 1): 5; edge(2, 2): 4; edge(2, 3): 8; edge(5, 1): 2; edge(5, 2): 2; "
                        + "edge(5, 3): 10");
    }

    private static void edges() {
        Sentences.hold("Edges", "The edges of the region correspond to the sides of the contours of phase 0, and are "
                + "numbered from 0 in the order of contours and, in a contour, of sides.",
                "edges(): 0; edge(0, 0): throws index",
                States.RING + "edges(): 8; phase(0, 4): 8; edge(3, 4): 0; edge(4, 4): 1; edge(7, 4): 1; "
                        + "origin(0, 0, 3, 1): 3; origin(0, 1, 0, 1): 4; origin(0, 1, 3, 2): 7; "
                        + "edge(8, 0): throws index",
                States.CORNERS + "edges(): 8; edge(3, 4): 0; edge(4, 4): 1",
                Runs.checkerboard() + "edges(): 288; edge(287, 4): 71; edge(288, 0): throws index",
                "rectangle(0, 0, 0, 12, 12); edges(): 4");
        Sentences.hold("Edges", "An edge has the direction of its side.",
                "rectangle(0, 5, 5, 1, 1); edge(0, 0): 0; edge(1, 0): 1; edge(2, 0): 2; edge(3, 0): 3");
        Sentences.hold("Edges", "Its line, low and high are those of the segment of the boundary of the region from "
                + "which the side was moved by 1/4 into the region;",
                States.ELL + "edge(3, 1): 4; edge(3, 2): 5; edge(3, 3): 10; edge(2, 1): 5; edge(2, 2): 4; "
                        + "edge(2, 3): 8",
                States.RING + "edge(4, 1): 3; edge(4, 2): 3; edge(4, 3): 4; edge(6, 1): 4; edge(7, 1): 3; "
                        + "edge(5, 1): 4");
        Sentences.hold("Edges", "they are integers, in units.",
                "rectangle(0, 0, 0, 12, 12); edge(0, 1): 0; edge(0, 2): 0; edge(0, 3): 12; edge(1, 1): 12; "
                        + "edge(1, 2): 0; edge(1, 3): 12; edge(2, 1): 12; edge(3, 1): 0",
                "rectangle(0, 11, 0, 1, 1); edge(0, 2): 11; edge(0, 3): 12; edge(1, 1): 12; edge(3, 1): 11");
    }

    /** The floor of the room has a step at the line of the floor of a low bay, with a gap between them. */
    private static final String STEP_AND_BAY = Runs.picture("####.", "####.", "#####", "##.#.");
    private static final String STAIRS = Runs.picture("######", "######", "######", ".#####", "..####");

    private static void wavefronts() {
        String words = "A side of a phase k comes from an edge if both have the same direction, the line of the side "
                + "is that of the edge moved by r = k / 2 + 1/4 into the region, and the open interval from low - r to "
                + "high + r of the side and the open interval from low to high of the edge have a point in common.";
        // the side over the step, made longer by r, ends just where the floor of the bay begins
        Sentences.hold("Wavefronts", words,
                STEP_AND_BAY + "edge(2, 1): 1; edge(2, 3): 3; edge(6, 1): 1; edge(6, 2): 4; vertex(1, 0, 2, 0): 5; "
                        + "vertex(1, 0, 3, 0): 13; origin(1, 0, 2, 0): 1; origin(1, 0, 2, 1): 2; "
                        + "origin(1, 0, 2, 2): 2; origin(2, 0, 0, 0): 1; phase(1, 7): 0; phase(2, 7): 0; "
                        + "edge(6, 6): 1",
                STEP_AND_BAY + "append('m;'); execute(); phase(1, 7): 0; phase(2, 7): 0",
                STEP_AND_BAY + "append('r;'); execute(); phase(1, 7): 0; phase(2, 7): 0",
                STEP_AND_BAY + "append('r;r;'); execute(); phase(1, 7): 0; phase(2, 7): 0",
                STEP_AND_BAY + "append('r;r;r;'); execute(); phase(1, 7): 0; phase(2, 7): 0");
        // two steps with a gap of 1 between them: reached by 1/2 in phase 1, missed by 1/2 in phase 0
        Sentences.hold("Wavefronts", words,
                Runs.picture("#####", "#####", "#####", "#####", "#.#.#") + "phase(0, 7): 0; phase(1, 7): 1; "
                        + "origin(1, 0, 0, 0): 2; edge(2, 1): 1; edge(6, 1): 1; origin(1, 0, 0, 1): 2; "
                        + "origin(1, 0, 0, 2): 6");
        // the north and the west edge of the cell have the same line, and stairs have the same direction
        Sentences.hold("Wavefronts", words,
                "rectangle(0, 0, 0, 1, 1); edge(1, 1): 1; edge(2, 1): 1; origin(0, 0, 1, 0): 1; "
                        + "origin(0, 0, 1, 1): 1; origin(0, 0, 2, 1): 2; phase(0, 7): 0",
                Runs.picture("######", "######", "######", "..####", "....##") + "phase(0, 7): 0; phase(1, 7): 0; "
                        + "origin(0, 0, 0, 1): 0; origin(1, 0, 0, 0): 1");
    }

    /** Asks all edges of a region, after commands, when they become extinct. */
    private static String extinct(String region, String commands, int... phases) {
        StringBuilder calls = new StringBuilder(region);
        calls.append(commands.isEmpty() ? "" : "append('" + commands + "'); execute(); ");
        for (int edge = 0; edge < phases.length; edge++) {
            calls.append("edge(").append(edge).append(", 6): ").append(phases[edge]).append("; ");
        }
        return calls.append("edges(): ").append(phases.length).toString();
    }

    private static void merging() {
        Sentences.hold("Wavefronts", "A side that comes from two or more edges is merged.",
                States.ROOMS + "phase(0, 7): 0; phase(1, 7): 2; origin(1, 0, 1, 0): 2; origin(1, 0, 3, 0): 1",
                Runs.picture("######", "######", "######", ".#.#.#") + "phase(0, 7): 0; origin(1, 0, 0, 0): 3; "
                        + "origin(1, 0, 0, 1): 2; origin(1, 0, 0, 2): 12; phase(1, 7): 1",
                // one edge from which two sides come is no merging
                Runs.picture("###...####", "###...####", "##########") + "origin(1, 0, 0, 1): 0; "
                        + "origin(1, 1, 0, 1): 0; origin(1, 0, 0, 0): 1; phase(1, 7): 0");
        Sentences.hold("Wavefronts", "An edge becomes extinct at the first phase in which no side comes from it.",
                States.ROOMS + "edge(2, 6): 1; edge(8, 6): 1; edge(1, 6): 3; edge(0, 6): 3",
                States.ELL + "edge(4, 6): 2; edge(3, 6): 2; edge(0, 6): 3",
                "rectangle(0, 0, 0, 1, 1); edge(0, 6): 1; edge(1, 6): 1; edge(2, 6): 1; edge(3, 6): 1",
                // sides of the step end just where the bay and the wall under it begin
                extinct(STEP_AND_BAY, "", 2, 2, 3, 1, 1, 1, 1, 1, 1, 3, 3, 3),
                extinct(STEP_AND_BAY, "m;", 1, 1, 3, 2, 2, 3, 3, 3, 1, 1, 1, 1),
                extinct(STEP_AND_BAY, "r;", 3, 2, 2, 3, 1, 1, 1, 1, 1, 1, 3, 3),
                extinct(STEP_AND_BAY, "r;r;r;", 1, 1, 3, 3, 3, 2, 2, 3, 1, 1, 1, 1),
                // stairs: the short steps are reached by sides made longer by r
                extinct(STAIRS, "", 4, 4, 4, 3, 3, 4, 4, 4), extinct(STAIRS, "m;", 4, 4, 4, 4, 3, 3, 4, 4),
                extinct(STAIRS, "r;", 3, 3, 4, 4, 4, 4, 4, 4),
                // a room gives way to a bay: its sides do not stay
                "rectangle(0, 0, 0, 3, 3); rectangle(0, 5, 0, 3, 3); edge(4, 6): 3; rectangle(1, 5, 1, 3, 2); "
                        + "edge(4, 6): 1",
                // the floor lasts as long as the higher one of the two rooms over it
                Runs.picture("...####", "...####", "##.####", "#######") + "edge(0, 6): 4; edge(7, 6): 2");
    }

    private static void samples() {
        Sentences.hold("Samples and faces", "The sample of cell (x, y) is the point (x + 1/8, y + 3/8);",
                // 1/8 from the west side of its cell, 3/8 from the south side
                "rectangle(0, 0, 0, 3, 1); component(0, 0, 0): -1; component(0, 1, 0): 0; component(0, 2, 0): 0; "
                        + "face(0, 0): 3; face(1, 0): 0; face(2, 0): 0",
                "rectangle(0, 0, 0, 1, 3); component(0, 0, 0): -1; component(0, 0, 1): -1; component(0, 0, 2): -1; "
                        + "face(0, 1): 3",
                "rectangle(0, 0, 0, 3, 3); face(2, 1): 1; face(1, 1): 3; face(1, 2): 2; face(1, 0): 0; "
                        + "clearance(2, 1, 2, 1): 1; clearance(1, 2, 1, 2): 0; clearance(1, 1, 1, 1): 1");
        Sentences.hold("Samples and faces", "its quarter cell is the one that contains it.",
                "rectangle(0, 0, 0, 12, 12); component(0, 0, 5): -1; component(0, 1, 0): 0; component(1, 1, 0): -1; "
                        + "component(1, 1, 1): 0; component(1, 11, 1): 0; component(2, 11, 1): -1; "
                        + "component(0, 11, 11): 0; component(1, 11, 11): -1; path(0, 1, 0, 11, 11): 84");
    }

    private static void faces() {
        String words = "A cell of the region belongs to the face of an edge if the square that determines the height "
                + "r of its sample touches the edge: one of the four sides of this square lies on the line of the "
                + "edge, the region lies on that side of the edge on which the sample is, and this side of the square "
                + "and the edge have more than one point in common.";
        Sentences.hold("Samples and faces", words,
                "face(0, 0): -1; rectangle(0, 0, 0, 1, 1); face(0, 0): 3; edge(3, 5): 1; edge(0, 5): 0; "
                        + "edge(1, 5): 0; edge(2, 5): 0; face(1, 0): -1; face(0, 1): -1",
                // a hole of one cell: the corners of the squares just reach its four edges
                "rectangle(0, 0, 0, 12, 12); rectangle(1, 5, 5, 1, 1); edge(4, 0): 1; edge(5, 0): 0; edge(6, 0): 3; "
                        + "edge(7, 0): 2; face(4, 4): 4; face(4, 6): 4; face(6, 6): 5; face(6, 4): 7; face(6, 5): 6; "
                        + "face(5, 6): 5; face(5, 4): 7; face(6, 7): 5; face(4, 7): 5; face(5, 5): -1",
                // the wall of the upper room is on the line of the square, but not beside it
                Runs.picture("###.", "###.", "####", "####") + "face(3, 1): 2; face(3, 0): 0; face(2, 1): 3; "
                        + "face(2, 2): 3; face(2, 3): 4");
        Sentences.hold("Samples and faces", "If there are several such edges, the cell belongs only to the face of "
                + "the one with the lowest number.",
                "rectangle(0, 0, 1, 9, 5); rectangle(0, 4, 0, 1, 1); edge(2, 1): 1; edge(2, 2): 5; edge(6, 1): 1; "
                        + "edge(6, 3): 4; face(4, 2): 2; face(1, 1): 6; face(5, 2): 2; face(3, 2): 6; "
                        + "edge(2, 5): 12; edge(6, 5): 6",
                "rectangle(0, 0, 0, 12, 12); edge(0, 5): 36; edge(1, 5): 30; edge(2, 5): 36; edge(3, 5): 42");
    }

    private static void events() {
        String words = "There is an event at k, for k from 1 to the number of phases, if phase k - 1 and phase k "
                + "differ in the total number of vertices of their contours, in the number of components, or in the "
                + "number of contours of holes.";
        Sentences.hold("Events", words,
                // the empty region has none, and one cell has the one at the end
                "events(): 0; event(0, 0): throws index; rectangle(0, 0, 0, 1, 1); events(): 1; event(0, 0): 1; "
                        + "event(1, 0): throws index",
                // nothing happens before the end
                "rectangle(0, 0, 0, 12, 12); events(): 1; event(0, 0): 12; event(0, 1): 4; event(0, 2): 0",
                // vertices alone
                States.ELL + "events(): 2; event(0, 0): 2; event(0, 1): 6; event(0, 2): 4; event(0, 3): 1; "
                        + "event(0, 4): 1; phase(1, 3): 0; phase(2, 3): 0");
        Sentences.hold("Events", words,
                // components alone
                Runs.picture("###..###", "###..###", "########") + "events(): 2; event(0, 0): 1; event(0, 1): 8; "
                        + "event(0, 2): 8; event(0, 3): 1; event(0, 4): 2; phase(0, 3): 0; phase(1, 3): 0; "
                        + "event(1, 0): 3");
        Sentences.hold("Events", words,
                // holes alone: the hole opens to the floor
                Runs.picture("#######", "#######", "#######", "###.###", "#######") + "events(): 2; event(0, 0): 1; "
                        + "event(0, 1): 8; event(0, 2): 8; event(0, 3): 1; event(0, 4): 1; phase(0, 3): 1; "
                        + "phase(1, 3): 0; event(1, 0): 3");
        Sentences.hold("Events", "It takes place at the distance k / 2.",
                "rectangle(0, 0, 0, 4, 2); event(0, 0): 2; height(16, 8): 8; area(1): 12; area(2): 0");
        Sentences.hold("Events", "Events are numbered from 0 in ascending order of k.",
                States.RICH + "events(): 3; event(0, 0): 1; event(1, 0): 2; event(2, 0): 3; "
                        + "event(3, 0): throws index",
                States.ELL + "event(0, 0): 2; event(1, 0): 3");
    }

    /** From the low foot of the first room, which comes first in phase 0 alone. */
    private static final String FOOT = Runs.picture("......###", "###...###", "###...###", "###....#.", ".......#.");

    private static void branches() {
        Sentences.hold("Branches", "Every component of a phase k from 1 on lies in exactly one component of phase k "
                + "- 1, which is its parent.",
                States.ROOMS + "branch(1, 3): 0; branch(2, 3): 0; branch(0, 3): -1",
                FOOT + "branches(): 2; branch(0, 2): 0; branch(0, 1): 2; branch(1, 2): 1; branch(1, 1): 2; "
                        + "component(0, 8, 3): 0; component(1, 8, 3): 1");
        Sentences.hold("Branches", "A branch is a sequence of components of consecutive phases, each the only one "
                + "whose parent is the one before it.",
                "rectangle(0, 0, 0, 12, 12); branches(): 1; branch(0, 0): 0; branch(0, 1): 11",
                States.ROOMS + "branch(0, 0): 0; branch(0, 1): 0; branch(1, 0): 1; branch(1, 1): 2; branches(): 3");
        Sentences.hold("Branches", "It begins with a component of phase 0, or with one of several components that "
                + "have the same parent, and is as long as possible.",
                "branches(): 0; branch(0, 0): throws index",
                States.RICH + "branches(): 4; branch(0, 0): 0; branch(1, 0): 1; branch(2, 0): 1; branch(3, 0): 0; "
                        + "branch(3, 1): 1; branch(3, 3): -1");
        Sentences.hold("Branches", "It ends with a component that is the parent of none, which vanishes, or of at "
                + "least two, which splits.",
                "rectangle(0, 0, 0, 1, 1); branch(0, 1): 0; branch(0, 4): 0",
                States.ROOMS + "branch(0, 4): 2; branch(1, 4): 0; branch(2, 4): 0; event(0, 6): 1; event(0, 5): 0; "
                        + "event(1, 5): 2; event(1, 6): 0",
                Runs.picture("..##...", "..##...", "#######", "##.#.##", "##...##") + "branch(0, 4): 3; "
                        + "branches(): 4");
    }

    private static void branchNumbers() {
        Sentences.hold("Branches", "Branches are numbered as follows: for each component of phase 0, in ascending "
                + "order, its branch, followed by all branches that come from the components into which it splits, "
                + "in ascending order of these components, each directly followed by the branches that come from it "
                + "in the same way.",
                // a high room with, by corridors of height 1 and 2, two lower ones, and a room alone
                "rectangle(0, 0, 0, 3, 3); rectangle(0, 3, 1, 1, 1); rectangle(0, 4, 0, 4, 4); "
                        + "rectangle(0, 8, 1, 1, 2); rectangle(0, 9, 0, 3, 4); rectangle(0, 0, 5, 2, 2); "
                        + "branches(): 6; branch(0, 4): 2; branch(0, 5): 3; branch(1, 0): 1; branch(1, 2): 0; "
                        + "branch(1, 3): 0; branch(1, 1): 2; branch(2, 0): 1; branch(2, 2): 1; branch(2, 3): 0; "
                        + "branch(2, 4): 2; branch(3, 0): 2; branch(3, 3): 2; branch(3, 1): 3; branch(4, 3): 2; "
                        + "branch(4, 1): 2; branch(5, 0): 0; branch(5, 2): 1; branch(5, 3): -1",
                FOOT + "branch(0, 2): 0; branch(1, 2): 1; branch(2, 0): throws index");
    }

    private static void text() {
        Sentences.hold("Text", "A buffer holds at most 60 characters.",
                Runs.times(15, "append('m;m;')") + "count(3): 60; append('m'): throws state; append(0): 60; "
                        + "execute(): 30; count(3): 0; append('m'): 1");
        Sentences.hold("Text", "text = command { command }",
                "append('m;'); execute(): 1", "append('m;r;'); execute(): 2",
                "append('+0,0,1,1;-0,0,1,1;'); execute(): 2",
                Runs.times(15, "append('m;m;')") + "execute(): 30",
                "execute(): throws argument; errorPosition(): 0",
                "append('m;+'); execute(): throws argument; errorPosition(): 3");
        Sentences.hold("Text", "command = operation number \",\" number \",\" number \",\" number \";\" | \"r;\" | "
                + "\"m;\"",
                "append('+1,2,3,4;'); execute(): 1; count(0): 12; contains(1, 2): true; contains(3, 5): true; "
                        + "contains(4, 2): false; contains(1, 6): false",
                fails("+1,2,3;", 6), fails("+1,2,3,4,", 8), fails("+1;", 2), fails("+1,2;", 4), fails("r,", 1),
                fails("m", 1), fails("rm;", 1), fails("R;", 0), fails("r;;", 2), fails(";", 0), fails("1;", 0));
        Sentences.hold("Text", "operation = \"+\" | \"-\" | \"^\"",
                "append('+0,0,1,1;'); execute(): 1; append('^0,0,2,1;'); execute(): 1; count(0): 1; "
                        + "append('-1,0,1,1;'); execute(): 1; count(0): 0",
                fails("*0,0,1,1;", 0), fails("++0,0,1,1;", 1), fails(",0,0,1,1;", 0));
        Sentences.hold("Text", "number = one or two digits that do not start with 0, or 0 alone;",
                "append('+10,9,2,3;'); execute(): 1; count(0): 6; contains(11, 11): true; contains(10, 9): true",
                "append('+0,0,12,12;'); execute(): 1; count(0): 144",
                fails("+00,0,1,1;", 2), fails("+01,0,1,1;", 2), fails("+0,09,1,1;", 4), fails("+0,0,01,1;", 5),
                fails("+,0,1,1;", 1), fails("+-1,0,1,1;", 1), fails("+0,0,1,;", 7));
        Sentences.hold("Text", "it is read as far as digits follow that it can have",
                fails("+111,0,1,1;", 3), fails("+100,0,1,1;", 3), fails("+123,0,1,1;", 1), fails("+0,0,120,1;", 7),
                fails("+0,0,12,123;", 10), fails("+1a,0,1,1;", 2));
    }

    /** A text that is refused on an object with changes to undo and to redo, and where its error is. */
    private static String fails(String text, int position) {
        return "rectangle(0, 2, 2, 3, 3); save(); rectangle(0, 4, 4, 3, 3); rectangle(2, 0, 0, 3, 3); undo(); "
                + "append('" + text + "'); execute(): throws argument; errorPosition(): " + position
                + "; count(0): 17; count(1): 2; count(2): 1; count(3): 0";
    }

    private static void commands() {
        Sentences.hold("Text", "The numbers are x and y of the lowest cell, the width and the height of a rectangle "
                + "of cells: + adds its cells to the region, - removes them, ^ adds those that are not in the region "
                + "and removes the others.",
                "append('+2,3,4,5;'); execute(): 1; count(0): 20; contains(2, 3): true; contains(5, 7): true; "
                        + "contains(6, 7): false; contains(5, 8): false; contains(1, 3): false; "
                        + "contains(2, 2): false",
                "append('+0,0,2,2;+1,1,2,2;'); execute(): 2; count(0): 7",
                "append('+0,0,3,3;-1,1,5,5;'); execute(): 2; count(0): 5; contains(1, 1): false; "
                        + "contains(3, 3): false",
                "append('+0,0,3,3;^2,2,2,1;'); execute(): 2; count(0): 9; contains(2, 2): false; "
                        + "contains(3, 2): true",
                "append('^0,0,12,12;'); execute(): 1; count(0): 144; append('^0,0,12,12;'); execute(): 1; "
                        + "count(0): 0",
                "append('-0,0,12,12;'); execute(): 1; count(0): 0; append('+11,11,1,1;'); execute(): 1; count(0): 1");
        Sentences.hold("Text", "The command r turns the region counterclockwise by a right angle, so that cell (x, "
                + "y) becomes (11 - y, x);",
                "append('+0,0,2,1;r;'); execute(): 2; contains(11, 0): true; contains(11, 1): true; count(0): 2",
                "append('+3,7,1,1;r;'); execute(): 2; contains(4, 3): true; append('r;'); execute(); "
                        + "contains(8, 4): true; append('r;r;'); execute(): 2; contains(3, 7): true; count(0): 1",
                "append('r;'); execute(): 1; count(0): 0",
                "append('+0,0,12,12;r;'); execute(): 2; count(0): 144");
        Sentences.hold("Text", "m mirrors it, so that cell (x, y) becomes (11 - x, y).",
                "append('+0,0,2,1;m;'); execute(): 2; contains(11, 0): true; contains(10, 0): true; count(0): 2",
                "append('+3,7,1,1;m;'); execute(): 2; contains(8, 7): true; append('m;'); execute(); "
                        + "contains(3, 7): true",
                "append('m;r;'); execute(): 2; append('+3,7,1,1;m;r;'); execute(): 3; contains(4, 8): true",
                "append('+3,7,1,1;r;m;'); execute(): 3; contains(7, 3): true");
    }

    private static void errors() {
        Sentences.hold("Text", "The text is read from left to right, and the first error is reported at its "
                + "position: at a character that is not allowed, or at the length of the text if it ends too early;",
                fails("x", 0), fails("+x", 1), fails("+0x", 2), fails("+0,x", 3), fails("+0,0,1,1x", 8),
                fails("r;m;x;y;", 4), fails("+0,0,1,1;x;+99,", 9), fails("rx", 1), fails("+", 1), fails("+0", 2),
                fails("+0,", 3), fails("+0,0", 4), fails("+0,0,", 5), fails("+0,0,1", 6), fails("+0,0,1,", 7),
                fails("+0,0,1,1", 8), fails("+0,0,1,1;r", 10), fails("r", 1), fails("r;m", 3),
                "rectangle(0, 2, 2, 3, 3); append(0x2b00302c): 3; execute(): throws argument; errorPosition(): 3",
                Runs.times(14, "append('m;m;')") + "append('m;mm'); execute(): throws argument; errorPosition(): 59",
                Runs.times(14, "append('m;m;')") + "append('m;+1'); execute(): throws argument; errorPosition(): 60");
        Sentences.hold("Text", "at the first digit of a number that is out of range: x or y above 11, a width of 0 "
                + "or above 12 - x, a height of 0 or above 12 - y.",
                fails("+12,0,1,1;", 1), fails("+99,0,1,1;", 1), fails("+0,12,1,1;", 3), fails("+11,12,1,1;", 4),
                fails("+0,0,0,1;", 5), fails("+0,0,13,1;", 5), fails("+1,0,12,1;", 5), fails("+11,0,2,1;", 6),
                fails("+0,0,1,0;", 7), fails("+0,0,1,13;", 7), fails("+0,1,1,12;", 7), fails("+0,11,1,2;", 8),
                fails("-12,0,1,1;", 1), fails("^0,0,1,0;", 7), fails("r;+0,0,1,0;", 9),
                "append('+11,11,1,1;'); execute(): 1; count(0): 1",
                "append('+0,11,12,1;-11,0,1,12;'); execute(): 2; count(0): 11",
                "append('^1,0,11,12;'); execute(): 1; count(0): 132",
                "append('^0,1,12,11;'); execute(): 1; count(0): 132");
    }

    private static void changes() {
        Sentences.hold("Changes", "Every successful call of rectangle, execute, clear and restore is a change, even "
                + "if the region stays the same.",
                "rectangle(0, 0, 0, 1, 1); count(1): 1; rectangle(0, 0, 0, 1, 1); count(1): 2; undo(): 1; "
                        + "count(0): 1; undo(): 0; count(0): 0",
                "rectangle(1, 0, 0, 12, 12): 0; count(1): 1; undo(): 0; redo(): 0; count(1): 1",
                "append('m;'); execute(): 1; count(1): 1; undo(): 0; count(2): 1",
                "append('r;r;r;r;'); execute(): 4; count(1): 1",
                "clear(): 0; count(1): 1; clear(): 0; count(1): 2; undo(): 1",
                "save(): 0; restore(): 0; count(1): 1; restore(): 0; count(1): 2; undo(): 1");
        Sentences.hold("Changes", "Every successful call",
                States.RICH + "count(1): 5; rectangle(0, 0, 0, 13, 1): throws index; count(1): 5; "
                        + "execute(): throws argument; count(1): 5",
                "restore(): throws state; count(1): 0; execute(): throws argument; count(1): 0");
        Sentences.hold("Changes", "is a change",
                // no other call is one
                "rectangle(0, 0, 0, 12, 12); save(); append('m;'); errorPosition(); edges(); volume(); face(0, 0); "
                        + "path(0, 1, 1, 2, 2); count(1): 1");
    }

    private static void undoing() {
        String nine = "rectangle(0, 0, 0, 1, 1); rectangle(0, 1, 0, 1, 1); rectangle(0, 2, 0, 1, 1); "
                + "rectangle(0, 3, 0, 1, 1); rectangle(0, 4, 0, 1, 1); rectangle(0, 5, 0, 1, 1); "
                + "rectangle(0, 6, 0, 1, 1); rectangle(0, 7, 0, 1, 1); rectangle(0, 8, 0, 1, 1); ";
        Sentences.hold("Changes", "The last 8 changes can be undone, the latest one first.",
                nine + "count(1): 8; undo(): 7; count(0): 8; undo(): 6; count(0): 7; undo(): 5; count(0): 6; "
                        + "undo(): 4; count(0): 5; undo(): 3; count(0): 4; undo(): 2; count(0): 3; undo(): 1; "
                        + "count(0): 2; undo(): 0; count(0): 1; undo(): throws state; count(0): 1; "
                        + "contains(0, 0): true",
                nine.substring(nine.indexOf("rectangle(0, 1,")) + "count(1): 8; undo(); undo(); undo(); undo(); "
                        + "undo(); undo(); undo(): 1; undo(): 0; count(0): 0; undo(): throws state",
                // the ring of kept regions goes round: changes after undo and redo, many times
                nine + "undo(); undo(); undo(); redo(); " + nine + "undo(): 7; count(0): 8; count(2): 1; redo(): 0; "
                        + nine + "count(1): 8; undo(); undo(); undo(); undo(); undo(); undo(); undo(); undo(): 0; "
                        + "redo(): 7; count(0): 9; undo(): 0; undo(): throws state");
        Sentences.hold("Changes", "Changes that were undone can be redone until the next change.",
                nine + "undo(): 7; undo(): 6; redo(): 1; count(0): 8; redo(): 0; count(0): 9; redo(): throws state",
                nine + "undo(); undo(); undo(); undo(); undo(); undo(); undo(); undo(): 0; redo(): 7; redo(): 6; "
                        + "redo(): 5; redo(): 4; redo(): 3; redo(): 2; redo(): 1; redo(): 0; count(0): 9; "
                        + "redo(): throws state",
                nine + "undo(); undo(); count(2): 2; rectangle(0, 0, 0, 1, 1): 7; count(2): 0; redo(): throws state; "
                        + "undo(): 6; count(0): 7; redo(): 0",
                nine + "undo(); clear(): 8; count(2): 0; redo(): throws state; undo(): 7; count(0): 8",
                nine + "undo(); append('m;'); count(2): 1; execute(): 1; count(2): 0; redo(): throws state",
                "save(); " + nine + "undo(); restore(): 0; count(2): 0; redo(): throws state",
                // what is no change, or was refused, leaves them
                nine + "undo(); save(): 8; append('x'); execute(): throws argument; phases(): 1; count(2): 1; "
                        + "redo(): 0; count(0): 9",
                nine + "undo(); rectangle(0, 0, 0, 0, 1): throws index; redo(): 0; count(0): 9");
    }

    private static void inDoubt() {
        Sentences.hold("In doubt", "Two quarter cells of a phase never touch at a corner alone, so that two contours "
                + "never meet.",
                States.CORNERS + "phase(0, 2): 2; contour(0, 0, 0): 4; contour(0, 1, 0): 4; vertex(0, 0, 2, 0): 3; "
                        + "vertex(0, 0, 2, 1): 3; vertex(0, 1, 0, 0): 5; vertex(0, 1, 0, 1): 5",
                Runs.picture("#####", "#####", "##.##", "#.###", "#####") + "phase(0, 2): 2; contour(0, 1, 0): 8; "
                        + "phase(0, 3): 1; edges(): 12; corners(): 11",
                Runs.checkerboard() + "phase(0, 2): 72; phase(0, 3): 0");
        Sentences.hold("In doubt", "An edge from which sides come in all phases is extinct at the number of phases.",
                States.RING + "phases(): 2; edge(0, 6): 2; edge(4, 6): 2; edge(7, 6): 2",
                "rectangle(0, 0, 0, 12, 12); edge(0, 6): 12; edge(3, 6): 12",
                States.ROOMS + "phases(): 3; edge(0, 6): 3; edge(4, 6): 3; edge(2, 6): 1");
        Sentences.hold("In doubt", "The offset at the last event can be empty and has 0 vertices then.",
                States.RING + "events(): 1; event(0, 0): 2; event(0, 1): 8; event(0, 2): 0; event(0, 3): 1; "
                        + "event(0, 4): 0; event(0, 5): 1; event(0, 6): 0",
                Runs.checkerboard() + "events(): 1; event(0, 0): 1; event(0, 1): 288; event(0, 2): 0; "
                        + "event(0, 3): 72; event(0, 4): 0; event(0, 5): 72; event(0, 6): 0");
        Sentences.hold("In doubt", "A cell and itself have the last phase that has the sample as clearance, and a "
                + "path of length 0.",
                "rectangle(0, 0, 0, 12, 12); clearance(6, 6, 6, 6): 10; clearance(11, 11, 11, 11): 0; "
                        + "clearance(0, 0, 0, 0): -1; path(0, 6, 6, 6, 6): 0; path(10, 6, 6, 6, 6): 0; "
                        + "path(0, 11, 11, 11, 11): 0; path(0, 1, 0, 1, 0): 0",
                "rectangle(0, 0, 0, 2, 5); phases(): 2; clearance(1, 2, 1, 2): 1; path(1, 1, 2, 1, 2): 0",
                States.ROOMS + "clearance(1, 1, 1, 1): 1; path(0, 1, 1, 1, 1): 0; path(1, 1, 1, 1, 1): 0");
    }

    private static void inDoubtOfText() {
        Sentences.hold("In doubt", "A number is looked at whether it is in range as soon as its digits have been "
                + "read, with the x and y of the same command;",
                fails("+12", 1), fails("+12x", 1), fails("+0,12", 3), fails("+0,0,13", 5), fails("+0,0,0", 5),
                fails("+0,0,1,13", 7), fails("+0,0,1,0", 7), fails("+99,99,99,99;", 1), fails("+11,11,2,2;", 7),
                // the x of the command before would allow it, or would not
                fails("+0,0,1,1;+11,0,2,1;", 15), fails("+0,0,12,12;+1,1,11,12;", 19),
                "append('+11,11,1,1;+0,0,12,12;'); execute(): 2; count(0): 144");
        Sentences.hold("In doubt", "a text has at least one command.",
                "execute(): throws argument; errorPosition(): 0",
                fails("", 0),
                "append(0): 0; execute(): throws argument; errorPosition(): 0; append('m;'); execute(): 1; "
                        + "execute(): throws argument; errorPosition(): 0");
        Sentences.hold("In doubt", "Saving is no change and leaves what can be redone;",
                "save(); count(1): 0; undo(): throws state; count(2): 0",
                "rectangle(0, 0, 0, 2, 2); rectangle(0, 0, 0, 3, 3); undo(): 1; save(): 4; count(1): 1; count(2): 1; "
                        + "redo(): 0; count(0): 9; save(): 9; undo(): 1; count(0): 4");
        Sentences.hold("In doubt", "undo and redo do not touch what was saved.",
                "rectangle(0, 0, 0, 2, 2); save(): 4; undo(); restore(): 4; contains(1, 1): true",
                "save(); rectangle(0, 0, 0, 2, 2); undo(); redo(); restore(): 0",
                "rectangle(0, 0, 0, 2, 2); rectangle(0, 0, 0, 3, 3); undo(); save(): 4; redo(): 0; restore(): 4; "
                        + "undo(): 2; undo(): 1; undo(): 0; restore(): 4",
                "rectangle(0, 0, 0, 2, 2); undo(); restore(): throws state");
    }

    private static void inDoubtOfPoints() {
        Sentences.hold("In doubt", "A symmetric copy may have to be moved anywhere.",
                "rectangle(0, 0, 0, 1, 1); symmetries(): 8", "rectangle(0, 11, 11, 1, 1); symmetries(): 8",
                "rectangle(0, 9, 0, 3, 2); symmetries(): 4", "rectangle(0, 0, 10, 3, 2); symmetries(): 4",
                Runs.picture("............", "............", ".........#..", "........###", ".........#..")
                        + "symmetries(): 8",
                "rectangle(0, 0, 0, 2, 1); rectangle(0, 10, 11, 2, 1); symmetries(): 2",
                "rectangle(0, 1, 0, 2, 1); rectangle(0, 0, 1, 2, 1); symmetries(): 2",
                "rectangle(0, 0, 0, 1, 3); rectangle(0, 0, 0, 2, 1); symmetries(): 1",
                "rectangle(0, 10, 9, 1, 3); rectangle(0, 10, 9, 2, 1); symmetries(): 1",
                "rectangle(0, 10, 0, 1, 2); rectangle(0, 10, 0, 2, 1); symmetries(): 2");
        Sentences.hold("In doubt", "Points on the common side of two cells of the region belong to it.",
                "rectangle(0, 3, 3, 1, 1); rectangle(0, 4, 3, 1, 1); height(32, 28): 4; height(32, 25): 1; "
                        + "height(32, 24): 0; height(32, 32): 0",
                "rectangle(0, 3, 3, 2, 2); height(32, 32): 8; height(32, 36): 4; height(28, 32): 4; phases(): 2");
        Sentences.hold("In doubt", "A point at which two cells touch by a corner counts once among the corners;",
                States.CORNERS + "corners(): 7; edges(): 8",
                Runs.checkerboard() + "edges(): 288; corners(): 167",
                Runs.picture("###", "#.#", "###") + "corners(): 8",
                Runs.picture(".#.", "#.#", ".#.") + "corners(): 12; edges(): 16");
        Sentences.hold("In doubt", "edges of a group need not touch.",
                "rectangle(0, 0, 4, 1, 1); rectangle(0, 11, 4, 1, 1); groups(): 6; group(0, 2): 2; group(0, 3): 2; "
                        + "group(0, 0): 0; group(0, 1): 4",
                States.ROOMS + "groups(): 8; group(0, 2): 2; group(0, 3): 6; group(1, 2): 2; group(1, 3): 2");
    }

    /** The document's own lines, without the characters that it tells beside append. */
    private static void examples() {
        int examples = 0;
        for (String line : Doc.section("Examples")) {
            if (line.startsWith("- ")) {
                String run = line.substring(2).replaceAll(" with \\S+:", ":")
                        .replace("throws IllegalArgumentException", "throws argument");
                Sentences.hold("Examples", line,
                        run);
                examples++;
            }
        }
        Check.same("examples of the document", examples, Doc.isThere() ? 5 : 0);
        Sentences.hold("Examples", "each one begins with a new object;",
                "count(0): 0; count(1): 0; count(3): 0");
    }
}
