/** Promises 1 to 11 and 34: a test for each line that names a limit, a special case or an exception. */
public final class EditingTest {
    private static final String LEAST = "-2147483648";
    private static final String MOST = "2147483647";
    private static final String SIXTY = Runs.times(15, "append('m;m;')");

    private EditingTest() {
    }

    public static void main(String[] args) {
        newObject();
        rectangleOperation();
        rectanglePlace();
        rectangleSize();
        rectangleRefused();
        clear();
        append();
        appendRefused();
        execute();
        executeRefused();
        errorPosition();
        undo();
        redo();
        save();
        restore();
        contains();
        count();
        Sentences.allLimitsHeld(1, 11);
        Sentences.allLimitsHeld(34, 34);
        Check.finish("EditingTest");
    }

    private static void hold(int promise, String words, String... runs) {
        Sentences.hold("Promise " + promise, words, runs);
    }

    private static void newObject() {
        hold(1, "Creates a model with an empty region.",
                "count(0): 0; count(1): 0; count(2): 0; count(3): 0; errorPosition(): -1; edges(): 0; corners(): 0; "
                        + "groups(): 0; symmetries(): 8; area(0): 0; area(24): 0; volume(): 0; phases(): 0; "
                        + "events(): 0; branches(): 0; contains(0, 0): false; contains(11, 11): false; "
                        + "height(48, 48): 0; height(0, 96): 0; face(0, 0): -1; face(11, 11): -1; "
                        + "clearance(0, 0, 0, 0): -1; clearance(5, 5, 6, 6): -1",
                "clear(): 0", "save(): 0; restore(): 0", "append(0): 0",
                "undo(): throws state; redo(): throws state; restore(): throws state; execute(): throws argument; "
                        + "edge(0, 0): throws index; group(0, 0): throws index; phase(0, 0): throws index; "
                        + "contour(0, 0, 0): throws index; vertex(0, 0, 0, 0): throws index; "
                        + "origin(0, 0, 0, 0): throws index; component(0, 0, 0): throws index; "
                        + "event(0, 0): throws index; branch(0, 0): throws index; path(0, 0, 0, 0, 0): throws index");
    }

    private static void rectangleOperation() {
        hold(2, "`operation`: 0 to add the cells, 1 to remove them, 2 to add those that are not in the region and to "
                + "remove the others",
                "rectangle(0, 1, 2, 3, 4): 12; rectangle(0, 2, 3, 3, 4): 18; rectangle(0, 2, 3, 3, 4): 18",
                "rectangle(0, 0, 0, 3, 3): 9; rectangle(1, 1, 1, 5, 5): 5; contains(0, 0): true; "
                        + "contains(1, 1): false; rectangle(1, 1, 1, 5, 5): 5; rectangle(1, 0, 0, 12, 12): 0; "
                        + "rectangle(1, 0, 0, 12, 12): 0",
                "rectangle(0, 0, 0, 3, 1): 3; rectangle(2, 1, 0, 3, 1): 2; contains(0, 0): true; "
                        + "contains(1, 0): false; contains(2, 0): false; contains(3, 0): true; "
                        + "contains(4, 0): false; rectangle(2, 0, 0, 12, 12): 142; rectangle(2, 0, 0, 12, 12): 2",
                "rectangle(2, 0, 0, 12, 12): 144; rectangle(2, 0, 0, 12, 12): 0");
        hold(2, "Applies an operation to a rectangle of cells.",
                "rectangle(0, 4, 6, 3, 2): 6; contains(4, 6): true; contains(6, 7): true; contains(3, 6): false; "
                        + "contains(7, 6): false; contains(4, 5): false; contains(4, 8): false; "
                        + "contains(6, 4): false",
                "rectangle(0, 0, 0, 12, 12): 144; rectangle(1, 4, 6, 3, 2): 138; contains(4, 6): false; "
                        + "contains(6, 7): false; contains(3, 6): true; contains(7, 6): true; contains(4, 5): true; "
                        + "contains(4, 8): true",
                "rectangle(2, 4, 6, 3, 2): 6; contains(4, 6): true; contains(6, 7): true; contains(7, 7): false; "
                        + "contains(6, 8): false");
        hold(2, "Returns the number of cells of the region.",
                "rectangle(1, 3, 3, 1, 1): 0; rectangle(0, 3, 3, 1, 1): 1; rectangle(0, 0, 0, 12, 12): 144");
    }

    private static void rectanglePlace() {
        hold(2, "`x`: the least x, 0 to 11",
                "rectangle(0, 0, 5, 1, 1): 1; contains(0, 5): true; rectangle(0, 11, 5, 1, 1): 2; "
                        + "contains(11, 5): true; rectangle(1, 11, 5, 1, 1): 1; rectangle(2, 11, 5, 1, 1): 2",
                States.RICH + "rectangle(0, -1, 0, 1, 1): throws index; rectangle(0, 12, 0, 1, 1): throws index");
        hold(2, "`y`: the least y, 0 to 11",
                "rectangle(0, 5, 0, 1, 1): 1; contains(5, 0): true; rectangle(0, 5, 11, 1, 1): 2; "
                        + "contains(5, 11): true; rectangle(1, 5, 11, 1, 1): 1; rectangle(2, 5, 11, 1, 1): 2",
                States.RICH + "rectangle(0, 0, -1, 1, 1): throws index; rectangle(0, 0, 12, 1, 1): throws index");
    }

    private static void rectangleSize() {
        hold(2, "`width`: the width, 1 to 12 - x",
                "rectangle(0, 0, 0, 1, 1): 1; rectangle(0, 0, 0, 12, 1): 12; rectangle(0, 5, 1, 7, 1): 19; "
                        + "rectangle(0, 11, 2, 1, 1): 20; rectangle(1, 5, 0, 7, 1): 13; "
                        + "rectangle(2, 1, 0, 11, 1): 16",
                States.RICH + "rectangle(0, 0, 3, 0, 1): throws index; rectangle(0, 0, 3, -1, 1): throws index; "
                        + "rectangle(0, 0, 3, 13, 1): throws index; rectangle(0, 5, 3, 8, 1): throws index; "
                        + "rectangle(0, 11, 3, 2, 1): throws index; rectangle(2, 11, 3, 0, 1): throws index; "
                        + "rectangle(1, 1, 0, 12, 1): throws index");
        hold(2, "`height`: the height, 1 to 12 - y",
                "rectangle(0, 0, 0, 1, 1): 1; rectangle(0, 0, 0, 1, 12): 12; rectangle(0, 1, 5, 1, 7): 19; "
                        + "rectangle(0, 2, 11, 1, 1): 20; rectangle(1, 0, 5, 1, 7): 13; "
                        + "rectangle(2, 0, 1, 1, 11): 16",
                States.RICH + "rectangle(0, 8, 0, 1, 0): throws index; rectangle(0, 8, 0, 1, -1): throws index; "
                        + "rectangle(0, 8, 0, 1, 13): throws index; rectangle(0, 8, 5, 1, 8): throws index; "
                        + "rectangle(0, 8, 11, 1, 2): throws index; rectangle(2, 8, 11, 1, 0): throws index; "
                        + "rectangle(1, 0, 1, 1, 12): throws index");
    }

    private static void rectangleRefused() {
        hold(2, "Throws `IllegalArgumentException` if operation is not from 0 to 2",
                States.each("rectangle(-1, 0, 0, 1, 1): throws argument; "
                        + "rectangle(3, 0, 0, 12, 12): throws argument; rectangle(" + LEAST
                        + ", 0, 0, 1, 1): throws argument; rectangle(" + MOST + ", 0, 0, 1, 1): throws argument; "
                        + "rectangle(4, 0, 0, 0, 0): throws argument"));
        hold(2, "Throws `IndexOutOfBoundsException` if another argument is out of range",
                States.each("rectangle(0, -1, 0, 1, 1): throws index; rectangle(1, 12, 0, 1, 1): throws index; "
                        + "rectangle(2, 0, -1, 1, 1): throws index; rectangle(0, 0, 12, 1, 1): throws index; "
                        + "rectangle(1, 0, 0, 0, 12): throws index; rectangle(1, 0, 0, 13, 12): throws index; "
                        + "rectangle(1, 0, 0, 12, 0): throws index; rectangle(2, 0, 0, 12, 13): throws index"));
        hold(2, "Throws `IndexOutOfBoundsException`",
                States.each("rectangle(0, " + LEAST + ", 0, 1, 1): throws index; rectangle(0, " + MOST
                        + ", 0, 1, 1): throws index; rectangle(0, 0, " + LEAST + ", 1, 1): throws index; "
                        + "rectangle(0, 0, " + MOST + ", 1, 1): throws index; rectangle(0, 0, 0, " + LEAST
                        + ", 1): throws index; rectangle(0, 11, 0, " + MOST + ", 1): throws index; "
                        + "rectangle(0, 0, 0, 1, " + LEAST + "): throws index; rectangle(0, 0, 11, 1, " + MOST
                        + "): throws index; rectangle(0, -1, 0, 13, 1): throws index; "
                        + "rectangle(0, 0, -1, 1, 13): throws index; rectangle(0, " + LEAST + ", 0, " + LEAST
                        + ", 1): throws index; rectangle(2, 12, 12, 0, 0): throws index"));
    }

    private static void clear() {
        hold(3, "Returns the number of cells removed.",
                "clear(): 0; clear(): 0",
                "rectangle(0, 0, 0, 12, 12); clear(): 144; clear(): 0; count(0): 0",
                "rectangle(0, 11, 11, 1, 1); clear(): 1; contains(11, 11): false; phases(): 0; edges(): 0; "
                        + "volume(): 0");
        hold(3, "Removes all cells from the region.",
                States.RICH + "clear(): 44; count(0): 0; count(1): 6; count(2): 0; count(3): 7; errorPosition(): 2; "
                        + "undo(): 5; count(0): 44",
                States.FULL + "clear(): 144; height(48, 48): 0; corners(): 0; symmetries(): 8; undo(): 7; "
                        + "phases(): 12");
    }

    private static void append() {
        hold(4, "Appends up to four characters to the buffer: the bytes of an int from the most significant one to "
                + "the least significant one, where bytes that are 0 are skipped.",
                "append(0): 0; append(0): 0; append(0x6d3b723b): 4; append(0): 4; execute(): 2",
                // m; in every two of the four bytes
                "append(0x6d3b0000): 2; execute(): 1", "append(0x006d3b00): 2; execute(): 1",
                "append(0x00006d3b): 2; execute(): 1", "append(0x6d00003b): 2; execute(): 1",
                "append(0x6d003b00): 2; execute(): 1", "append(0x006d003b): 2; execute(): 1",
                "append(0x3b6d0000): 2; execute(): throws argument; errorPosition(): 0",
                "append(0x6d): 1; append(0x3b000000): 2; execute(): 1",
                "append(0x2b31302c): 4; append(0x00392c32): 7; append(0x2c330000): 9; append(0x3b): 10; "
                        + "execute(): 1; count(0): 6; contains(10, 9): true; contains(11, 11): true",
                "append('a'): 1; append('bcd'): 4; append('efgh'): 8");
        hold(4, "Returns the number of characters in the buffer.",
                "append(0): 0; append(0x6d): 1; append(0x6d6d): 3; append(0x6d6d6d): 6; append(0x6d6d6d6d): 10; "
                        + "count(3): 10",
                SIXTY + "append(0): 60; count(3): 60");
    }

    private static void appendRefused() {
        String wrongInAnyPlace = "append(0x20000000): throws argument; append(0x00200000): throws argument; "
                + "append(0x2000): throws argument; append(0x20): throws argument; "
                + "append(0x7f000000): throws argument; append(0x007f0000): throws argument; "
                + "append(0x7f00): throws argument; append(0x7f): throws argument; "
                + "append(0x80000000): throws argument; append(0x00ff0000): throws argument; "
                + "append(0x8000): throws argument; append(0xff): throws argument; "
                + "append(0x01000000): throws argument; append(1): throws argument; append(-1): throws argument; "
                + "append(" + LEAST + "): throws argument; append(" + MOST + "): throws argument; "
                + "append(0x6d3b6d20): throws argument; append(0x206d3b6d): throws argument; "
                + "append(0x6d3b7f3b): throws argument; append(0x6d3b3b0a): throws argument";
        hold(4, "Throws `IllegalArgumentException` if a byte that is not 0 is not from 33 to 126",
                States.each(wrongInAnyPlace));
        hold(4, "Throws `IllegalArgumentException` if a byte that is not 0 is not from 33 to 126",
                "append(0x21212121): 4; append(0x7e7e7e7e): 8; append(0x21007e00): 10; append(0x0021007e): 12",
                "append(0x6d3b6d20): throws argument; count(3): 0; append('m;'): 2; append(0x3b20): throws argument; "
                        + "count(3): 2; execute(): 1");
        hold(4, "Throws `IllegalStateException` if there would be more than 60 characters",
                SIXTY + "count(3): 60; append('m'): throws state; append(0x6d00): throws state; "
                        + "append('m;'): throws state; append('m;m'): throws state; append('m;m;'): throws state; "
                        + "append(0): 60; execute(): 30; append('m'): 1",
                Runs.times(14, "append('m;m;')") + "append('m;'): 58; append('m;m;'): throws state; count(3): 58; "
                        + "append('m;m'): throws state; count(3): 58; append('m;'): 60; execute(): 30",
                Runs.times(14, "append('m;m;')") + "append('m;m'): 59; append('m;'): throws state; "
                        + "append(0x3b00): 60; append('m'): throws state; execute(): 30",
                Runs.times(14, "append('m;m;')") + "append('m'): 57; append('m;mm'): throws state; count(3): 57; "
                        + "append(0x3b6d003b): 60; execute(): 30",
                States.FULL + "append('m'): throws state; append('~~~~'): throws state",
                SIXTY + "append('m'): throws state; execute(): 30; undo(): 0; append('m;m;'): 4");
    }

    private static void execute() {
        hold(5, "Reads the text in the buffer and executes its commands in their order, as one change.",
                "append('+0,0,2,1;r;'); execute(): 2; contains(11, 0): true; contains(11, 1): true; count(1): 1; "
                        + "undo(): 0; count(0): 0; redo(): 0; contains(11, 1): true",
                "append('r;+0,0,2,1;'); execute(): 2; contains(0, 0): true; contains(1, 0): true; count(0): 2",
                "append('+0,0,3,3;-0,0,2,2;^1,1,2,2;'); execute(): 3; count(0): 3; contains(1, 1): true; "
                        + "contains(2, 2): false; count(1): 1",
                "append('-0,0,2,2;+0,0,3,3;'); execute(): 2; count(0): 9",
                States.RICH + "execute(): throws argument; append('m;m;'); execute(): 2; count(0): 44; count(1): 6; "
                        + "count(2): 0; undo(): 5; count(0): 44; edges(): 20");
        hold(5, "The buffer is empty afterwards, also if an exception is thrown;",
                "append('m;'); execute(): 1; count(3): 0; execute(): throws argument; count(3): 0; "
                        + "errorPosition(): 0",
                "append('m;x'); execute(): throws argument; count(3): 0; append('r;'): 2; execute(): 1; count(3): 0",
                SIXTY + "execute(): 30; count(3): 0; " + SIXTY + "count(3): 60");
        hold(5, "if there is an error in the text, no command is executed.",
                "rectangle(0, 3, 3, 1, 1); append('+0,0,12,12;r;m;x'); execute(): throws argument; count(0): 1; "
                        + "contains(3, 3): true; count(1): 1; undo(): 0",
                "rectangle(0, 3, 3, 1, 1); append('r;+0,0,1,13;'); execute(): throws argument; contains(3, 3): true",
                "rectangle(0, 3, 3, 1, 1); append('-0,0,12,12;m'); execute(): throws argument; contains(3, 3): true; "
                        + "append('m;'); execute(): 1; contains(8, 3): true; count(0): 1");
        hold(5, "Returns the number of commands.",
                "append('m;'); execute(): 1",
                "append('m;r;+0,0,1,1;-0,0,1,1;^0,0,1,1;'); execute(): 5",
                SIXTY + "execute(): 30",
                "rectangle(0, 0, 0, 2, 1); " + Runs.times(29, "append('m;')") + "append('r;'): 60; execute(): 30; "
                        + "contains(11, 10): true; contains(11, 11): true; count(0): 2",
                "append('+0,0,2,1;'); " + Runs.times(25, "append('r;')") + "execute(): 26; contains(11, 0): true; "
                        + "contains(11, 1): true; count(0): 2",
                "append('+11,11,1,1;+11,11,1,1;+11,11,1,1;+11,11,1,1;+11,11,1,1;m;m;'); execute(): 7; "
                        + "contains(11, 11): true; count(0): 1");
    }

    private static void executeRefused() {
        hold(5, "Throws `IllegalArgumentException` if there is an error in the text",
                "execute(): throws argument; count(1): 0; execute(): throws argument",
                States.RICH + "execute(): throws argument; errorPosition(): 7; execute(): throws argument; "
                        + "errorPosition(): 0",
                States.FULL + "execute(): 30; execute(): throws argument",
                States.CLEARED + "execute(): throws argument; errorPosition(): 1",
                States.CLEARED + "append('0,0,1,1;x'); execute(): throws argument; count(0): 0; undo(): 1; "
                        + "count(0): 16",
                "rectangle(0, 0, 0, 2, 2); undo(); append('+0,0,12,12;-'); execute(): throws argument; redo(): 0; "
                        + "count(0): 4");
    }

    private static void errorPosition() {
        hold(6, "Returns the index of the character, or -1 if that text had no error or execute was not called.",
                "errorPosition(): -1",
                "append('x'); errorPosition(): -1; execute(): throws argument; errorPosition(): 0",
                "append('m;'); execute(): 1; errorPosition(): -1",
                "append('m;x'); execute(): throws argument; errorPosition(): 2; append('m;'); errorPosition(): 2; "
                        + "execute(): 1; errorPosition(): -1",
                "rectangle(0, 0, 0, 1, 1); append('mm'); execute(): throws argument; errorPosition(): 1; undo(); "
                        + "errorPosition(): 1; redo(); clear(); save(); restore(); errorPosition(): 1",
                Runs.times(14, "append('m;m;')") + "append('m;m!'): 60; execute(): throws argument; "
                        + "errorPosition(): 59",
                Runs.times(14, "append('m;m;')") + "append('m;m'): 59; execute(): throws argument; "
                        + "errorPosition(): 59",
                Runs.times(14, "append('m;m;')") + "append('m;-0'): 60; execute(): throws argument; "
                        + "errorPosition(): 60");
        hold(6, "Returns the position of the error in the text that execute read most recently.",
                "append('m;x'); execute(): throws argument; append('x'); execute(): throws argument; "
                        + "errorPosition(): 0; append('m;m'); execute(): throws argument; errorPosition(): 3; "
                        + "execute(): throws argument; errorPosition(): 0",
                "append('r;+'); execute(): throws argument; errorPosition(): 3; append(1): throws argument; "
                        + "errorPosition(): 3");
    }

    private static void undo() {
        String two = "rectangle(0, 0, 0, 2, 2); rectangle(0, 0, 0, 3, 3); ";
        hold(7, "Undoes the latest change that is not undone.",
                two + "undo(): 1; count(0): 4; undo(): 0; count(0): 0",
                two + "undo(); redo(); undo(): 1; count(0): 4; rectangle(1, 0, 0, 1, 1): 3; undo(): 1; count(0): 4; "
                        + "undo(): 0; count(0): 0",
                two + "clear(); undo(): 2; count(0): 9; save(); clear(); restore(): 9; undo(): 3; count(0): 0",
                two + "append('r;'); execute(); contains(11, 0): true; undo(): 2; contains(0, 0): true");
        hold(7, "Returns the number of changes that can still be undone.",
                Runs.times(8, "rectangle(2, 0, 0, 1, 1)") + "undo(): 7; undo(): 6; undo(): 5; undo(): 4; undo(): 3; "
                        + "undo(): 2; undo(): 1; undo(): 0; count(0): 0",
                Runs.times(20, "rectangle(2, 0, 0, 1, 1)") + "undo(): 7; count(0): 1");
        hold(7, "Throws `IllegalStateException` if no change can be undone",
                "undo(): throws state; undo(): throws state; rectangle(0, 0, 0, 1, 1): 1; undo(): 0; count(0): 0",
                two + "undo(); undo(): 0; undo(): throws state; count(1): 0; count(2): 2; redo(): 1; count(0): 4; "
                        + "redo(): 0; count(0): 9",
                Runs.times(9, "rectangle(2, 0, 0, 1, 1)") + Runs.times(8, "undo()") + "undo(): throws state; "
                        + "count(0): 1; count(2): 8; redo(): 7; count(0): 0",
                States.RICH + "undo(): 4; undo(): 3; undo(): 2; undo(): 1; undo(): 0; undo(): throws state; "
                        + "redo(): 6",
                States.FULL + Runs.times(8, "undo()") + "undo(): throws state; redo(): 7",
                "save(); append('m'); undo(): throws state; execute(): throws argument; undo(): throws state");
    }

    private static void redo() {
        String two = "rectangle(0, 0, 0, 2, 2); rectangle(0, 0, 0, 3, 3); ";
        hold(8, "Redoes the change that was undone last.",
                two + "undo(); undo(); redo(): 1; count(0): 4; redo(): 0; count(0): 9",
                two + "undo(); undo(); redo(): 1; undo(): 0; redo(): 1; count(0): 4; redo(): 0; count(0): 9");
        hold(8, "Returns the number of changes that can still be redone.",
                Runs.times(8, "rectangle(2, 0, 0, 1, 1)") + Runs.times(8, "undo()") + "redo(): 7; redo(): 6; "
                        + "redo(): 5; redo(): 4; redo(): 3; redo(): 2; redo(): 1; redo(): 0; count(0): 0; "
                        + "count(1): 8");
        hold(8, "Throws `IllegalStateException` if no change can be redone",
                "redo(): throws state; redo(): throws state; rectangle(0, 0, 0, 1, 1): 1; redo(): throws state; "
                        + "undo(): 0; redo(): 0; count(0): 1",
                two + "redo(): throws state; undo(): 1; redo(): 0; redo(): throws state; count(0): 9; undo(): 1; "
                        + "count(0): 4",
                two + "undo(); rectangle(0, 5, 5, 1, 1): 5; redo(): throws state; undo(): 1; count(0): 4; redo(): 0; "
                        + "count(0): 5",
                States.RICH + "redo(): 1; redo(): 0; redo(): throws state; undo(): 6",
                States.FULL + "redo(): throws state; undo(): 7",
                States.CLEARED + "redo(): throws state; undo(): 1");
    }

    private static void save() {
        hold(9, "Saves the region, in place of an earlier saved one.",
                "rectangle(0, 0, 0, 2, 2); save(): 4; rectangle(0, 0, 0, 3, 3); save(): 9; clear(); restore(): 9",
                "rectangle(0, 0, 0, 2, 2); save(): 4; clear(); save(): 0; undo(); count(0): 4; restore(): 0",
                "rectangle(0, 0, 0, 2, 2); save(); rectangle(0, 3, 3, 2, 2); restore(): 4; contains(3, 3): false");
        hold(9, "Returns the number of cells of the region.",
                "save(): 0; rectangle(0, 0, 0, 12, 12); save(): 144; save(): 144; count(1): 1");
    }

    private static void restore() {
        hold(10, "Makes the saved region the region; it stays saved.",
                "rectangle(0, 0, 0, 2, 2); save(); clear(); restore(): 4; clear(); restore(): 4; "
                        + "rectangle(0, 5, 5, 1, 1): 5; restore(): 4; edges(): 4; phases(): 2; contains(5, 5): false",
                States.RICH + "restore(): 18; count(1): 6; count(2): 0; count(3): 7; errorPosition(): 2; "
                        + "phase(0, 1): 2; undo(): 5; count(0): 44; restore(): 18");
        hold(10, "Returns the number of cells of the region.",
                "save(); rectangle(0, 0, 0, 12, 12); restore(): 0; undo(); save(); clear(); restore(): 144");
        hold(10, "Throws `IllegalStateException` if no region was saved",
                "restore(): throws state; restore(): throws state; save(): 0; restore(): 0; count(1): 1",
                States.CLEARED + "restore(): throws state; undo(): 1; restore(): throws state; count(0): 16",
                "rectangle(0, 0, 0, 2, 2); rectangle(0, 0, 0, 3, 3); undo(); restore(): throws state; count(0): 4; "
                        + "redo(): 0; count(0): 9");
    }

    private static void contains() {
        hold(11, "Returns whether a cell belongs to the region.",
                "rectangle(0, 0, 0, 1, 1); contains(0, 0): true; contains(1, 0): false; contains(0, 1): false; "
                        + "contains(11, 11): false",
                "rectangle(0, 0, 0, 12, 12); rectangle(1, 11, 0, 1, 1); contains(11, 0): false; "
                        + "contains(0, 11): true; contains(11, 11): true; contains(10, 0): true; "
                        + "contains(11, 1): true");
        hold(11, "Throws `IndexOutOfBoundsException` if x or y is not from 0 to 11",
                States.each("contains(-1, 0): throws index; contains(12, 0): throws index; "
                        + "contains(0, -1): throws index; contains(0, 12): throws index; "
                        + "contains(11, 12): throws index; contains(12, 11): throws index; "
                        + "contains(-1, 11): throws index; contains(11, -1): throws index; contains(" + LEAST
                        + ", 0): throws index; contains(" + MOST + ", 0): throws index; contains(0, " + LEAST
                        + "): throws index; contains(0, " + MOST + "): throws index; contains(32, 0): throws index; "
                        + "contains(-32, 0): throws index"));
    }

    private static void count() {
        hold(34, "`what`: 0 for the cells of the region, 1 for the changes that can be undone, 2 for the changes "
                + "that can be redone, 3 for the characters in the buffer",
                "count(0): 0; count(1): 0; count(2): 0; count(3): 0",
                "rectangle(0, 0, 0, 12, 12); count(0): 144; count(1): 1; rectangle(1, 0, 0, 1, 1); count(0): 143",
                Runs.times(7, "rectangle(0, 0, 0, 1, 1)") + "count(1): 7; clear(); count(1): 8; clear(); "
                        + "count(1): 8; undo(); count(1): 7; count(2): 1; " + Runs.times(7, "undo()")
                        + "count(1): 0; count(2): 8; count(0): 1; clear(); count(1): 1; count(2): 0",
                "append('abc'); count(3): 3; append('x'); count(3): 4; execute(): throws argument; count(3): 0; "
                        + SIXTY + "count(3): 60",
                States.RICH + "count(0): 44; count(1): 5; count(2): 2; count(3): 7");
        hold(34, "Throws `IllegalArgumentException` if what is not from 0 to 3",
                States.each("count(-1): throws argument; count(4): throws argument; count(" + LEAST
                        + "): throws argument; count(" + MOST + "): throws argument; count(100): throws argument"));
    }
}
