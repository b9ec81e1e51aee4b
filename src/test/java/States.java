/** Runs that bring an object into a state: regions to ask about, and states that a refused call could harm. */
final class States {
    static final String NEW = "";

    /**
     * Two rooms with a corridor between them and a ring: 20 edges in 15 groups, 3 phases, 3 events, 4 branches. There
     * are changes to undo and to redo, a saved region, characters in the buffer and a position of an error.
     */
    static final String RICH = "rectangle(0, 0, 0, 3, 3); rectangle(0, 5, 0, 3, 3); save(); "
            + "rectangle(0, 3, 1, 2, 1); rectangle(0, 1, 5, 5, 5); rectangle(1, 3, 7, 1, 1); "
            + "append('r;x'); execute(): throws argument; append('+9,0,3,'); "
            + "rectangle(2, 9, 9, 3, 3); rectangle(1, 0, 0, 2, 12); undo(); undo(); ";

    /** The whole grid, all 8 changes to undo, and a buffer that is full. */
    static final String FULL = Runs.times(5, "rectangle(0, 0, 0, 12, 12); rectangle(2, 3, 3, 2, 2)")
            + "rectangle(0, 0, 0, 12, 12); save(); " + Runs.times(15, "append('m;r;')");

    /** A region that is empty again. */
    static final String CLEARED = "rectangle(0, 3, 3, 4, 4); clear(); append('+'); ";

    static final String WHOLE = "rectangle(0, 0, 0, 12, 12); ";

    static final String LAST_CELL = "rectangle(0, 11, 11, 1, 1); ";

    /** Two cells that touch by a corner. */
    static final String CORNERS = "rectangle(0, 0, 0, 1, 1); rectangle(0, 1, 1, 1, 1); ";

    static final String ELL = "rectangle(0, 2, 2, 6, 3); rectangle(0, 2, 2, 2, 8); ";

    static final String RING = "rectangle(0, 1, 1, 5, 5); rectangle(1, 3, 3, 1, 1); ";

    /** Two rooms of 3 by 3 and a corridor of height 1 between them. */
    static final String ROOMS = Runs.picture("###..###", "########", "###..###");

    private States() {
    }

    /** The runs that make the calls in every state. */
    static String[] each(String calls) {
        return new String[] {NEW + calls, RICH + calls, FULL + calls, CLEARED + calls};
    }
}
