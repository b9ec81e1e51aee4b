import java.util.Arrays;

/**
 * The roof over a region of unit cells in a grid of 12 by 12: its offsets, their contours and
 * components, the edges that the contours come from, and the editing of the region.
 *
 * All rows are made once, with the object, and used again by every call.
 */
public final class RectilinearRoof {
    private static final int SIZE = 12;
    private static final int QUARTERS = 48;
    private static final int GRID = 2304;
    private static final int EIGHTHS = 96;
    private static final int MOST_HALVES = 24;
    private static final int MOST_DEPTHS = 26;
    private static final int MOST_PHASES = 12;
    private static final int MOST_RUNS = 288;
    private static final int MOST_COMPONENTS = 72;
    private static final int MOST_CONTOURS = 96;
    private static final int MOST_SIDES = 340;
    private static final int MOST_BRANCHES = 864;
    private static final int LINES = 13;
    private static final int MOST_GROUPS = 52;
    private static final int MOST_UNDO = 8;
    private static final int MOST_CHARACTERS = 60;
    private static final int MOST_COMMANDS = 30;
    private static final int COMMAND_NUMBERS = 5;

    private static final int ADD = 0;
    private static final int REMOVE = 1;
    private static final int TOGGLE = 2;
    private static final int TURN = 3;
    private static final int MIRROR = 4;

    private static final int EAST = 0;
    private static final int NORTH = 1;
    private static final int WEST = 2;
    private static final int SOUTH = 3;

    private final Region region = new Region();
    private final Region saved = new Region();
    private final Region image = new Region();
    private final History history = new History();
    private final Script script = new Script();
    private final Roof roof = new Roof();
    private boolean hasSaved;

    public RectilinearRoof() {
    }

    public int rectangle(int operation, int x, int y, int width, int height)
            throws IllegalArgumentException, IndexOutOfBoundsException {
        if (operation < ADD || operation > TOGGLE) {
            throw new IllegalArgumentException("no such operation");
        }
        if (!isCell(x, y) || width < 1 || width > SIZE - x || height < 1 || height > SIZE - y) {
            throw new IndexOutOfBoundsException("not a rectangle of the grid");
        }
        region.change(operation, x, y, width, height);
        recordChange();
        return region.size();
    }

    public int clear() {
        int removed = region.size();
        region.wipe();
        recordChange();
        return removed;
    }

    public int append(int packed) throws IllegalArgumentException, IllegalStateException {
        if (!Script.isText(packed)) {
            throw new IllegalArgumentException("not a character of a text");
        }
        if (script.length + Script.signsIn(packed) > MOST_CHARACTERS) {
            throw new IllegalStateException("the buffer is full");
        }
        script.take(packed);
        return script.length;
    }

    public int execute() throws IllegalArgumentException {
        if (!script.read()) {
            throw new IllegalArgumentException("an error in the text");
        }
        script.run(region);
        recordChange();
        return script.commandCount;
    }

    public int errorPosition() {
        return script.failure;
    }

    public int undo() throws IllegalStateException {
        if (history.undoable < 1) {
            throw new IllegalStateException("no change to undo");
        }
        history.stepBack(region);
        roof.spoil();
        return history.undoable;
    }

    public int redo() throws IllegalStateException {
        if (history.redoable < 1) {
            throw new IllegalStateException("no change to redo");
        }
        history.stepForth(region);
        roof.spoil();
        return history.redoable;
    }

    public int save() {
        saved.copy(region);
        hasSaved = true;
        return region.size();
    }

    public int restore() throws IllegalStateException {
        if (!hasSaved) {
            throw new IllegalStateException("no region was saved");
        }
        region.copy(saved);
        recordChange();
        return region.size();
    }

    public boolean contains(int x, int y) throws IndexOutOfBoundsException {
        if (!isCell(x, y)) {
            throw new IndexOutOfBoundsException("no such cell");
        }
        return region.has(x, y);
    }

    public int edges() {
        roof.refresh(region);
        return roof.edgeList.size;
    }

    public int edge(int edge, int what) throws IndexOutOfBoundsException, IllegalArgumentException {
        roof.refresh(region);
        if (edge < 0 || edge >= roof.edgeList.size) {
            throw new IndexOutOfBoundsException("no such edge");
        }
        if (what < 0 || what > 6) {
            throw new IllegalArgumentException("no such property of an edge");
        }
        return roof.edgeProperty(edge, what);
    }

    public int corners() {
        return region.cornerPoints();
    }

    public int groups() {
        roof.refresh(region);
        return roof.edgeList.groupCount;
    }

    public int group(int group, int what) throws IndexOutOfBoundsException, IllegalArgumentException {
        roof.refresh(region);
        if (group < 0 || group >= roof.edgeList.groupCount) {
            throw new IndexOutOfBoundsException("no such group");
        }
        if (what < 0 || what > 3) {
            throw new IllegalArgumentException("no such property of a group");
        }
        return roof.edgeList.groupProperty(group, what);
    }

    public int symmetries() {
        return region.selfMaps(image);
    }

    public int height(int x, int y) throws IndexOutOfBoundsException {
        if (x < 0 || x > EIGHTHS || y < 0 || y > EIGHTHS) {
            throw new IndexOutOfBoundsException("not a point of the grid");
        }
        return region.heightAt(x, y);
    }

    public int face(int x, int y) throws IndexOutOfBoundsException {
        if (!isCell(x, y)) {
            throw new IndexOutOfBoundsException("no such cell");
        }
        roof.refresh(region);
        return roof.faceOf(x, y);
    }

    public int area(int halves) throws IllegalArgumentException {
        if (halves < 0 || halves > MOST_HALVES) {
            throw new IllegalArgumentException("distance out of range");
        }
        roof.refresh(region);
        return roof.areaAt(halves);
    }

    public int volume() {
        roof.refresh(region);
        return roof.volumeBelow();
    }

    public int phases() {
        roof.refresh(region);
        return roof.phaseCount;
    }

    public int phase(int phase, int what) throws IndexOutOfBoundsException, IllegalArgumentException {
        roof.refresh(region);
        if (!roof.hasPhase(phase)) {
            throw new IndexOutOfBoundsException("no such phase");
        }
        if (what < 0 || what > 7) {
            throw new IllegalArgumentException("no such property of a phase");
        }
        return roof.phaseProperty(phase, what);
    }

    public int contour(int phase, int contour, int what)
            throws IndexOutOfBoundsException, IllegalArgumentException {
        roof.refresh(region);
        if (!roof.hasContour(phase, contour)) {
            throw new IndexOutOfBoundsException("no such phase or contour");
        }
        if (what < 0 || what > 3) {
            throw new IllegalArgumentException("no such property of a contour");
        }
        return roof.phaseAt(phase).outline.contourProperty(contour, what);
    }

    public int vertex(int phase, int contour, int vertex, int axis)
            throws IndexOutOfBoundsException, IllegalArgumentException {
        roof.refresh(region);
        if (!roof.hasSide(phase, contour, vertex)) {
            throw new IndexOutOfBoundsException("no such phase, contour or vertex");
        }
        if (axis != 0 && axis != 1) {
            throw new IllegalArgumentException("no such axis");
        }
        Outline outline = roof.phaseAt(phase).outline;
        int index = outline.sideIndex(contour, vertex);
        return axis == 0 ? outline.vertexX(index) : outline.vertexY(index);
    }

    public int origin(int phase, int contour, int side, int what)
            throws IndexOutOfBoundsException, IllegalArgumentException {
        roof.refresh(region);
        if (!roof.hasSide(phase, contour, side)) {
            throw new IndexOutOfBoundsException("no such phase, contour or side");
        }
        if (what < 0 || what > 2) {
            throw new IllegalArgumentException("no such property of an origin");
        }
        return roof.originOf(phase, roof.phaseAt(phase).outline.sideIndex(contour, side), what);
    }

    public int component(int phase, int x, int y) throws IndexOutOfBoundsException {
        roof.refresh(region);
        if (!roof.hasPhase(phase) || !isCell(x, y)) {
            throw new IndexOutOfBoundsException("no such phase or cell");
        }
        return roof.phaseAt(phase).labelOf(sampleOf(x, y));
    }

    public int events() {
        roof.refresh(region);
        return roof.eventCount();
    }

    public int event(int event, int what) throws IndexOutOfBoundsException, IllegalArgumentException {
        roof.refresh(region);
        if (event < 0 || event >= roof.eventCount()) {
            throw new IndexOutOfBoundsException("no such event");
        }
        if (what < 0 || what > 6) {
            throw new IllegalArgumentException("no such property of an event");
        }
        return roof.eventProperty(event, what);
    }

    public int branches() {
        roof.refresh(region);
        return roof.tree.size;
    }

    public int branch(int branch, int what) throws IndexOutOfBoundsException, IllegalArgumentException {
        roof.refresh(region);
        if (branch < 0 || branch >= roof.tree.size) {
            throw new IndexOutOfBoundsException("no such branch");
        }
        if (what < 0 || what > 5) {
            throw new IllegalArgumentException("no such property of a branch");
        }
        return roof.tree.branchProperty(branch, what);
    }

    public int clearance(int x, int y, int otherX, int otherY) throws IndexOutOfBoundsException {
        if (!isCell(x, y) || !isCell(otherX, otherY)) {
            throw new IndexOutOfBoundsException("no such cell");
        }
        roof.refresh(region);
        return roof.lastCommonPhase(sampleOf(x, y), sampleOf(otherX, otherY));
    }

    public int path(int phase, int x, int y, int otherX, int otherY) throws IndexOutOfBoundsException {
        roof.refresh(region);
        if (!roof.hasPhase(phase) || !isCell(x, y) || !isCell(otherX, otherY)) {
            throw new IndexOutOfBoundsException("no such phase or cell");
        }
        return roof.stepsBetween(phase, sampleOf(x, y), sampleOf(otherX, otherY));
    }

    public int count(int what) throws IllegalArgumentException {
        switch (what) {
            case 0:
                return region.size();
            case 1:
                return history.undoable;
            case 2:
                return history.redoable;
            case 3:
                return script.length;
            default:
                throw new IllegalArgumentException("no such count");
        }
    }

    private void recordChange() {
        history.record(region);
        roof.spoil();
    }

    private static boolean isCell(int x, int y) {
        return x >= 0 && x < SIZE && y >= 0 && y < SIZE;
    }

    /** The index of the quarter cell that contains the sample of a cell. */
    private static int sampleOf(int x, int y) {
        return (4 * y + 1) * QUARTERS + 4 * x;
    }

    private static int at(int[] row, int index) {
        return index >= 0 && index < row.length ? row[index] : 0;
    }

    private static void put(int[] row, int index, int value) {
        if (index >= 0 && index < row.length) {
            row[index] = value;
        }
    }

    private static long rowAt(long[] rows, int index) {
        return index >= 0 && index < rows.length ? rows[index] : 0L;
    }

    private static int stepX(int direction) {
        return direction == EAST ? 1 : direction == WEST ? -1 : 0;
    }

    private static int stepY(int direction) {
        return direction == NORTH ? 1 : direction == SOUTH ? -1 : 0;
    }

    /** Into the region means to greater coordinates, because the region is on the left. */
    private static boolean facesUp(int direction) {
        return direction == EAST || direction == SOUTH;
    }

    private static boolean isLevel(int direction) {
        return direction == EAST || direction == WEST;
    }

    /** The grid line of which a coordinate of phase 0 is a quarter away, on either side. */
    private static int unit(int quarters) {
        return (quarters + 1) >> 2;
    }

    private static int lowestBit(long bits) {
        return Long.bitCount((bits & -bits) - 1L);
    }

    /** A set of cells: a row is a number whose bit x stands for the cell (x, y). */
    private static final class Region {
        final int[] rows = new int[SIZE];
        private final int[] turned = new int[SIZE];

        boolean has(int x, int y) {
            return x >= 0 && x < SIZE && y >= 0 && y < rows.length && ((rows[y] >> x) & 1) != 0;
        }

        int size() {
            int cells = 0;
            for (int y = 0; y < rows.length; y++) {
                cells += Integer.bitCount(rows[y]);
            }
            return cells;
        }

        void wipe() {
            Arrays.fill(rows, 0);
        }

        void copy(Region other) {
            for (int y = 0; y < rows.length; y++) {
                rows[y] = at(other.rows, y);
            }
        }

        void change(int operation, int x, int y, int width, int height) {
            int mask = ((1 << width) - 1) << x;
            for (int row = 0; row < rows.length; row++) {
                if (row >= y && row < y + height) {
                    rows[row] = combined(operation, rows[row], mask);
                }
            }
        }

        private static int combined(int operation, int row, int mask) {
            if (operation == ADD) {
                return row | mask;
            }
            return operation == REMOVE ? row & ~mask : row ^ mask;
        }

        void turn() {
            Arrays.fill(turned, 0);
            for (int y = 0; y < SIZE; y++) {
                for (int x = 0; x < turned.length; x++) {
                    if (has(x, y)) {
                        turned[x] |= 1 << (SIZE - 1 - y);
                    }
                }
            }
            for (int y = 0; y < rows.length; y++) {
                rows[y] = at(turned, y);
            }
        }

        void mirror() {
            for (int y = 0; y < rows.length; y++) {
                int row = 0;
                for (int x = 0; x < SIZE; x++) {
                    row |= ((rows[y] >> x) & 1) << (SIZE - 1 - x);
                }
                rows[y] = row;
            }
        }

        /** By how many of the 8 symmetries this region is a moved copy of itself. */
        int selfMaps(Region image) {
            image.copy(this);
            int maps = 0;
            for (int turn = 0; turn < 8; turn++) {
                if (image.hasShapeOf(this)) {
                    maps++;
                }
                image.turn();
                if (turn == 3) {
                    image.mirror();
                }
            }
            return maps;
        }

        private boolean hasShapeOf(Region other) {
            int x = leastX();
            int y = leastY();
            int otherX = other.leastX();
            int otherY = other.leastY();
            for (int row = 0; row < SIZE; row++) {
                if (at(rows, y + row) >> x != at(other.rows, otherY + row) >> otherX) {
                    return false;
                }
            }
            return true;
        }

        private int leastX() {
            int all = 0;
            for (int y = 0; y < rows.length; y++) {
                all |= rows[y];
            }
            for (int x = 0; x < SIZE; x++) {
                if (((all >> x) & 1) != 0) {
                    return x;
                }
            }
            return 0;
        }

        private int leastY() {
            for (int y = 0; y < rows.length; y++) {
                if (rows[y] != 0) {
                    return y;
                }
            }
            return 0;
        }

        int cornerPoints() {
            int points = 0;
            for (int y = 0; y <= SIZE; y++) {
                for (int x = 0; x <= SIZE; x++) {
                    if (isCorner(x, y)) {
                        points++;
                    }
                }
            }
            return points;
        }

        /** A point is no corner where the boundary runs straight through it or not at all. */
        private boolean isCorner(int x, int y) {
            boolean southWest = has(x - 1, y - 1);
            boolean southEast = has(x, y - 1);
            boolean northWest = has(x - 1, y);
            boolean northEast = has(x, y);
            boolean level = southWest == southEast && northWest == northEast;
            boolean upright = southWest == northWest && southEast == northEast;
            return !level && !upright;
        }

        /** The distance, in eighths, to the nearest cell outside the region; those round the grid count. */
        int heightAt(int x, int y) {
            int nearest = EIGHTHS;
            for (int cellY = -1; cellY <= SIZE; cellY++) {
                for (int cellX = -1; cellX <= SIZE; cellX++) {
                    if (!has(cellX, cellY)) {
                        nearest = Math.min(nearest, Math.max(gap(x, 8 * cellX), gap(y, 8 * cellY)));
                    }
                }
            }
            return nearest;
        }

        private static int gap(int point, int low) {
            return Math.max(0, Math.max(low - point, point - low - 8));
        }
    }

    /** A ring of regions: the present one, those before it and those that were undone. */
    private static final class History {
        private final int[] states = new int[(MOST_UNDO + 1) * SIZE];
        private int slot;
        int undoable;
        int redoable;

        void record(Region region) {
            slot = (slot + 1) % (MOST_UNDO + 1);
            for (int y = 0; y < SIZE; y++) {
                put(states, slot * SIZE + y, at(region.rows, y));
            }
            undoable = Math.min(undoable + 1, MOST_UNDO);
            redoable = 0;
        }

        void stepBack(Region region) {
            slot = (slot + MOST_UNDO) % (MOST_UNDO + 1);
            undoable--;
            redoable++;
            load(region);
        }

        void stepForth(Region region) {
            slot = (slot + 1) % (MOST_UNDO + 1);
            undoable++;
            redoable--;
            load(region);
        }

        private void load(Region region) {
            for (int y = 0; y < SIZE; y++) {
                put(region.rows, y, at(states, slot * SIZE + y));
            }
        }
    }

    /** The buffer of characters, and the commands that were read from it. */
    private static final class Script {
        private final int[] text = new int[MOST_CHARACTERS];
        private final int[] commands = new int[MOST_COMMANDS * COMMAND_NUMBERS];
        private int position;
        int length;
        int failure = -1;
        int commandCount;

        static boolean isText(int packed) {
            for (int shift = 24; shift >= 0; shift -= 8) {
                int sign = (packed >>> shift) & 255;
                if (sign != 0 && (sign < 33 || sign > 126)) {
                    return false;
                }
            }
            return true;
        }

        static int signsIn(int packed) {
            int signs = 0;
            for (int shift = 24; shift >= 0; shift -= 8) {
                if (((packed >>> shift) & 255) != 0) {
                    signs++;
                }
            }
            return signs;
        }

        void take(int packed) {
            for (int shift = 24; shift >= 0; shift -= 8) {
                int sign = (packed >>> shift) & 255;
                if (sign != 0 && length >= 0 && length < text.length) {
                    text[length] = sign;
                    length++;
                }
            }
        }

        /** Reads the whole text before anything is executed, and empties the buffer. */
        boolean read() {
            position = 0;
            failure = -1;
            commandCount = 0;
            for (int i = 0; i < MOST_COMMANDS && failure < 0 && (i == 0 || position < length); i++) {
                readCommand();
            }
            length = 0;
            return failure < 0;
        }

        private void readCommand() {
            int kind = kindOf(sign());
            if (kind < 0) {
                failure = position;
                return;
            }
            position++;
            if (kind <= TOGGLE) {
                readRectangle();
            }
            readSign(';');
            put(commands, commandCount * COMMAND_NUMBERS, kind);
            commandCount++;
        }

        private static int kindOf(int sign) {
            switch (sign) {
                case '+':
                    return ADD;
                case '-':
                    return REMOVE;
                case '^':
                    return TOGGLE;
                case 'r':
                    return TURN;
                case 'm':
                    return MIRROR;
                default:
                    return -1;
            }
        }

        private void readRectangle() {
            int first = commandCount * COMMAND_NUMBERS + 1;
            int x = readNumber(0, SIZE - 1);
            readSign(',');
            int y = readNumber(0, SIZE - 1);
            readSign(',');
            put(commands, first, x);
            put(commands, first + 1, y);
            put(commands, first + 2, readNumber(1, SIZE - x));
            readSign(',');
            put(commands, first + 3, readNumber(1, SIZE - y));
        }

        private int readNumber(int least, int most) {
            if (failure >= 0) {
                return 0;
            }
            int start = position;
            int value = digit();
            if (value < 0) {
                failure = position;
                return 0;
            }
            position++;
            int second = value == 0 ? -1 : digit();
            if (second >= 0) {
                value = 10 * value + second;
                position++;
            }
            if (value < least || value > most) {
                failure = start;
            }
            return value;
        }

        private void readSign(char due) {
            if (failure >= 0) {
                return;
            }
            if (sign() == due) {
                position++;
            } else {
                failure = position;
            }
        }

        private int digit() {
            int sign = sign();
            return sign >= '0' && sign <= '9' ? sign - '0' : -1;
        }

        /** The next character, or 0 at the end: no character of a text is 0. */
        private int sign() {
            return position >= 0 && position < length && position < text.length ? text[position] : 0;
        }

        void run(Region region) {
            for (int i = 0; i < commandCount; i++) {
                int first = i * COMMAND_NUMBERS;
                int kind = at(commands, first);
                if (kind == TURN) {
                    region.turn();
                } else if (kind == MIRROR) {
                    region.mirror();
                } else {
                    region.change(kind, at(commands, first + 1), at(commands, first + 2),
                            at(commands, first + 3), at(commands, first + 4));
                }
            }
        }
    }

    /** Walks over the quarter cells of a phase, from cell to cell with a common side. */
    private static final class Walk {
        private final int[] queue = new int[GRID];
        private final int[] steps = new int[GRID];

        /** The least number of steps from a quarter cell to another one, or -1. */
        int length(Phase phase, int from, int to) {
            Arrays.fill(steps, -1);
            if (phase.labelOf(from) < 0) {
                return -1;
            }
            put(steps, from, 0);
            put(queue, 0, from);
            int tail = 1;
            for (int head = 0; head < tail && head < queue.length; head++) {
                int here = queue[head];
                for (int direction = EAST; direction <= SOUTH; direction++) {
                    int x = here % QUARTERS + stepX(direction);
                    int y = here / QUARTERS + stepY(direction);
                    int next = y * QUARTERS + x;
                    if (phase.covers(x, y) && at(steps, next) < 0) {
                        put(steps, next, at(steps, here) + 1);
                        put(queue, tail, next);
                        tail++;
                    }
                }
            }
            return at(steps, to);
        }
    }

    /**
     * The quarter cells of a phase, a number with a bit for each x in a row, and their components.
     * Components are made of runs, which are the longest unbroken stretches of rows: there are far
     * fewer of them than quarter cells.
     */
    private static final class Phase {
        final Outline outline = new Outline();
        private final long[] rows = new long[QUARTERS];
        private final int[] rowStarts = new int[QUARTERS + 1];
        private final long[] runs = new long[MOST_RUNS];
        private final int[] runRows = new int[MOST_RUNS];
        private final int[] labels = new int[MOST_RUNS];
        private final int[] waiting = new int[MOST_RUNS];
        private final int[] parents = new int[MOST_COMPONENTS];
        private final int[] children = new int[MOST_COMPONENTS];
        private int runCount;
        int components;

        boolean covers(int x, int y) {
            return x >= 0 && x < QUARTERS && y >= 0 && y < rows.length && ((rows[y] >> x) & 1L) != 0L;
        }

        long row(int y) {
            return rowAt(rows, y);
        }

        void setRow(int y, long row) {
            if (y >= 0 && y < rows.length) {
                rows[y] = row;
            }
        }

        void build(Phase before) {
            findRuns();
            components = 0;
            Arrays.fill(children, 0);
            for (int run = 0; run < runCount; run++) {
                if (at(labels, run) < 0) {
                    labelFrom(run);
                    link(before, run);
                    components++;
                }
            }
            outline.trace(this);
        }

        private void findRuns() {
            runCount = 0;
            for (int y = 0; y < rows.length; y++) {
                long left = rows[y];
                put(rowStarts, y, runCount);
                for (int i = 0; i < QUARTERS && left != 0L; i++) {
                    // adding the lowest bit carries through the lowest run and leaves the others
                    long run = left & ~(left + (left & -left));
                    addRun(run, y);
                    left ^= run;
                }
            }
            put(rowStarts, QUARTERS, runCount);
        }

        private void addRun(long run, int y) {
            if (runCount >= 0 && runCount < runs.length) {
                runs[runCount] = run;
                put(runRows, runCount, y);
                put(labels, runCount, -1);
                runCount++;
            }
        }

        /** Gives the number of the next component to all runs that hang together with a run. */
        private void labelFrom(int first) {
            put(labels, first, components);
            put(waiting, 0, first);
            int tail = 1;
            for (int head = 0; head < tail && head < waiting.length; head++) {
                int run = waiting[head];
                tail = labelBeside(run, at(runRows, run) - 1, tail);
                tail = labelBeside(run, at(runRows, run) + 1, tail);
            }
        }

        private int labelBeside(int run, int y, int tail) {
            int end = y >= 0 ? at(rowStarts, y + 1) : 0;
            for (int i = at(rowStarts, y); i < end; i++) {
                if (at(labels, i) < 0 && (rowAt(runs, i) & rowAt(runs, run)) != 0L) {
                    put(labels, i, components);
                    put(waiting, tail, i);
                    tail++;
                }
            }
            return tail;
        }

        /** The run comes first in its component, as its lowest quarter cell does. */
        private void link(Phase before, int run) {
            int x = lowestBit(rowAt(runs, run));
            int parent = before.labelOf(at(runRows, run) * QUARTERS + x);
            put(parents, components, parent);
            put(before.children, parent, before.childCount(parent) + 1);
        }

        int labelOf(int cell) {
            int x = cell % QUARTERS;
            int y = cell / QUARTERS;
            int end = covers(x, y) ? at(rowStarts, y + 1) : 0;
            for (int i = at(rowStarts, y); i < end; i++) {
                if (((rowAt(runs, i) >> x) & 1L) != 0L) {
                    return at(labels, i);
                }
            }
            return -1;
        }

        int parentOf(int component) {
            return component >= 0 && component < components ? at(parents, component) : -1;
        }

        int childCount(int component) {
            return at(children, component);
        }

        /** The lowest component that comes from a component of the phase before. */
        int firstChildOf(int parent) {
            for (int i = 0; i < components; i++) {
                if (parentOf(i) == parent) {
                    return i;
                }
            }
            return -1;
        }

        int vanishing() {
            int found = 0;
            for (int i = 0; i < components; i++) {
                if (childCount(i) == 0) {
                    found++;
                }
            }
            return found;
        }

        int splitting() {
            int found = 0;
            for (int i = 0; i < components; i++) {
                if (childCount(i) > 1) {
                    found++;
                }
            }
            return found;
        }
    }

    /** The contours of a phase; side i begins at vertex i, and contours lie one behind the other. */
    private static final class Outline {
        private static final long ROW = (1L << (QUARTERS + 1)) - 1L;

        private final int[] starts = new int[MOST_CONTOURS];
        private final int[] sizes = new int[MOST_CONTOURS];
        private final int[] holeFlags = new int[MOST_CONTOURS];
        private final int[] parts = new int[MOST_CONTOURS];
        private final int[] lengths = new int[MOST_CONTOURS];
        private final int[] directions = new int[MOST_SIDES];
        private final int[] lines = new int[MOST_SIDES];
        private final int[] lows = new int[MOST_SIDES];
        private final int[] highs = new int[MOST_SIDES];
        private final long[] bends = new long[QUARTERS + 1];
        private final long[] unseen = new long[QUARTERS + 1];
        int contours;
        int holes;
        int vertices;
        int leftTurns;
        int length;

        void trace(Phase phase) {
            contours = 0;
            holes = 0;
            vertices = 0;
            leftTurns = 0;
            length = 0;
            findBends(phase);
            for (int y = 0; y < unseen.length; y++) {
                // the first vertex that no contour has passed is the first one of its contour
                for (int i = 0; i <= QUARTERS && unseen[y] != 0L; i++) {
                    follow(phase, lowestBit(unseen[y]), y);
                }
            }
        }

        /** A contour bends where one or three of the four quarter cells at a point are in the phase. */
        private void findBends(Phase phase) {
            for (int y = 0; y < bends.length && y < unseen.length; y++) {
                long odd = phase.row(y - 1) ^ phase.row(y);
                bends[y] = (odd ^ (odd << 1)) & ROW;
                unseen[y] = bends[y];
            }
        }

        private void follow(Phase phase, int firstX, int firstY) {
            boolean hole = !phase.covers(firstX, firstY);
            int start = vertices;
            int direction = hole ? NORTH : EAST;
            int x = firstX;
            int y = firstY;
            int around = 0;
            boolean open = true;
            for (int i = 0; i < MOST_SIDES && open; i++) {
                int run = stepsToBend(x, y, direction);
                addSide(x, y, direction, run);
                around += run;
                x += run * stepX(direction);
                y += run * stepY(direction);
                boolean left = cellsAround(phase, x, y) == 1;
                leftTurns += left ? 1 : 0;
                direction = (direction + (left ? 1 : 3)) & 3;
                open = x != firstX || y != firstY;
            }
            put(starts, contours, start);
            put(sizes, contours, vertices - start);
            put(holeFlags, contours, hole ? 1 : 0);
            put(parts, contours, phase.labelOf(firstY * QUARTERS + (hole ? firstX - 1 : firstX)));
            put(lengths, contours, around);
            contours++;
            holes += hole ? 1 : 0;
            length += around;
        }

        private void addSide(int x, int y, int direction, int run) {
            if (y >= 0 && y < unseen.length) {
                unseen[y] &= ~(1L << x);
            }
            int along = isLevel(direction) ? x : y;
            boolean rising = direction == EAST || direction == NORTH;
            put(directions, vertices, direction);
            put(lines, vertices, isLevel(direction) ? y : x);
            put(lows, vertices, rising ? along : along - run);
            put(highs, vertices, rising ? along + run : along);
            vertices++;
        }

        private int stepsToBend(int x, int y, int direction) {
            for (int steps = 1; steps < QUARTERS; steps++) {
                if (isBend(x + steps * stepX(direction), y + steps * stepY(direction))) {
                    return steps;
                }
            }
            return QUARTERS;
        }

        private boolean isBend(int x, int y) {
            return x >= 0 && x <= QUARTERS && y >= 0 && y < bends.length && ((bends[y] >> x) & 1L) != 0L;
        }

        private static int cellsAround(Phase phase, int x, int y) {
            return (phase.covers(x - 1, y - 1) ? 1 : 0) + (phase.covers(x, y - 1) ? 1 : 0)
                    + (phase.covers(x - 1, y) ? 1 : 0) + (phase.covers(x, y) ? 1 : 0);
        }

        int contourProperty(int contour, int what) {
            switch (what) {
                case 0:
                    return at(sizes, contour);
                case 1:
                    return at(holeFlags, contour);
                case 2:
                    return at(parts, contour);
                default:
                    return at(lengths, contour);
            }
        }

        int sidesOf(int contour) {
            return contour >= 0 && contour < contours ? at(sizes, contour) : 0;
        }

        int sideIndex(int contour, int side) {
            return at(starts, contour) + side;
        }

        int contourOf(int side) {
            for (int i = 0; i < contours; i++) {
                if (side < at(starts, i) + at(sizes, i)) {
                    return i;
                }
            }
            return -1;
        }

        int directionOf(int side) {
            return at(directions, side);
        }

        int lineOf(int side) {
            return at(lines, side);
        }

        int lowOf(int side) {
            return at(lows, side);
        }

        int highOf(int side) {
            return at(highs, side);
        }

        /** A side to the east or to the north begins at its low end. */
        int vertexX(int side) {
            int direction = directionOf(side);
            if (!isLevel(direction)) {
                return lineOf(side);
            }
            return direction == EAST ? lowOf(side) : highOf(side);
        }

        int vertexY(int side) {
            int direction = directionOf(side);
            if (isLevel(direction)) {
                return lineOf(side);
            }
            return direction == NORTH ? lowOf(side) : highOf(side);
        }
    }

    /**
     * The edges, in units. They are kept by groups too: a group has a key for its direction and its
     * line, and its edges stand in ascending order from starts to ends of its key in sorted.
     */
    private static final class Edges {
        private final int[] directions = new int[MOST_SIDES];
        private final int[] lines = new int[MOST_SIDES];
        private final int[] lows = new int[MOST_SIDES];
        private final int[] highs = new int[MOST_SIDES];
        private final int[] sorted = new int[MOST_SIDES];
        private final int[] starts = new int[MOST_GROUPS + 1];
        private final int[] ends = new int[MOST_GROUPS];
        private final int[] groupKeys = new int[MOST_GROUPS];
        int size;
        int groupCount;

        void build(Outline ground) {
            size = ground.vertices;
            groupCount = 0;
            Arrays.fill(starts, 0);
            for (int i = 0; i < size; i++) {
                put(directions, i, ground.directionOf(i));
                put(lines, i, unit(ground.lineOf(i)));
                put(lows, i, unit(ground.lowOf(i)));
                put(highs, i, unit(ground.highOf(i)));
                int next = keyOf(i) + 1;
                put(starts, next, at(starts, next) + 1);
            }
            for (int key = 0; key < MOST_GROUPS; key++) {
                put(starts, key + 1, at(starts, key) + at(starts, key + 1));
                put(ends, key, at(starts, key));
            }
            for (int i = 0; i < size; i++) {
                sortIn(i);
            }
        }

        private int keyOf(int edge) {
            return directionOf(edge) * LINES + lineOf(edge);
        }

        /** The first edge of a key opens its group, as edges come in ascending order. */
        private void sortIn(int edge) {
            int key = keyOf(edge);
            int end = at(ends, key);
            if (end == at(starts, key)) {
                put(groupKeys, groupCount, key);
                groupCount++;
            }
            put(sorted, end, edge);
            put(ends, key, end + 1);
        }

        int directionOf(int edge) {
            return at(directions, edge);
        }

        int lineOf(int edge) {
            return at(lines, edge);
        }

        int lowOf(int edge) {
            return at(lows, edge);
        }

        int highOf(int edge) {
            return at(highs, edge);
        }

        /** Whether an edge and a stretch of its line, in eighths, have more than a point in common. */
        boolean overlaps(int edge, int from, int to) {
            return from < 8 * at(highs, edge) && to > 8 * at(lows, edge);
        }

        /**
         * The edges with a direction that overlap a stretch of a line, all in eighths: their number for
         * 0, the lowest one for 1, the highest one for 2; the latter are -1 if there is none.
         */
        int along(int direction, int line, int from, int to, int what) {
            boolean onGrid = line >= 0 && line <= EIGHTHS && line % 8 == 0;
            int key = direction * LINES + line / 8;
            int end = onGrid ? at(ends, key) : 0;
            int found = 0;
            int lowest = -1;
            int highest = -1;
            for (int i = at(starts, key); i < end; i++) {
                int edge = at(sorted, i);
                if (overlaps(edge, from, to)) {
                    found++;
                    lowest = lowest < 0 ? edge : lowest;
                    highest = edge;
                }
            }
            if (what == 0) {
                return found;
            }
            return what == 1 ? lowest : highest;
        }

        int groupProperty(int group, int what) {
            int key = at(groupKeys, group);
            switch (what) {
                case 0:
                    return key / LINES;
                case 1:
                    return key % LINES;
                case 2:
                    return at(ends, key) - at(starts, key);
                default:
                    return lengthOfKey(key);
            }
        }

        private int lengthOfKey(int key) {
            int sum = 0;
            int end = at(ends, key);
            for (int i = at(starts, key); i < end; i++) {
                int edge = at(sorted, i);
                sum += highOf(edge) - lowOf(edge);
            }
            return sum;
        }
    }

    /** The branches of the tree of components, in the order in which they are numbered. */
    private static final class Tree {
        private final int[] firstPhases = new int[MOST_BRANCHES];
        private final int[] lastPhases = new int[MOST_BRANCHES];
        private final int[] firstComponents = new int[MOST_BRANCHES];
        private final int[] parents = new int[MOST_BRANCHES];
        private final int[] splits = new int[MOST_BRANCHES];
        private final int[] ways = new int[MOST_BRANCHES];
        private final int[] waitingPhases = new int[MOST_BRANCHES];
        private final int[] waitingComponents = new int[MOST_BRANCHES];
        private final int[] waitingParents = new int[MOST_BRANCHES];
        private int waiting;
        int size;

        void grow(Roof roof) {
            size = 0;
            waiting = 0;
            pushChildren(roof.phaseAt(0), 0, -1, -1);
            for (int i = 0; i < MOST_BRANCHES && waiting > 0; i++) {
                waiting--;
                growBranch(roof, at(waitingPhases, waiting), at(waitingComponents, waiting),
                        at(waitingParents, waiting));
            }
            measureWays();
        }

        /** Those with higher numbers are pushed first, so that the lowest one is taken next. */
        private void pushChildren(Phase phase, int number, int component, int branch) {
            for (int i = phase.components - 1; i >= 0; i--) {
                if (phase.parentOf(i) == component) {
                    put(waitingPhases, waiting, number);
                    put(waitingComponents, waiting, i);
                    put(waitingParents, waiting, branch);
                    waiting++;
                }
            }
        }

        private void growBranch(Roof roof, int phase, int component, int parent) {
            int last = phase;
            int end = component;
            for (int i = 0; i < MOST_PHASES && roof.phaseAt(last).childCount(end) == 1; i++) {
                last++;
                end = roof.phaseAt(last).firstChildOf(end);
            }
            put(firstPhases, size, phase);
            put(lastPhases, size, last);
            put(firstComponents, size, component);
            put(parents, size, parent);
            put(splits, size, roof.phaseAt(last).childCount(end));
            pushChildren(roof.phaseAt(last + 1), last + 1, end, size);
            size++;
        }

        /** A branch has a lower number than those into which it splits, so the last one is settled first. */
        private void measureWays() {
            Arrays.fill(ways, 1);
            for (int i = size - 1; i >= 0; i--) {
                int parent = at(parents, i);
                put(ways, parent, Math.max(at(ways, parent), at(ways, i) + 1));
            }
        }

        int branchProperty(int branch, int what) {
            switch (what) {
                case 0:
                    return at(firstPhases, branch);
                case 1:
                    return at(lastPhases, branch);
                case 2:
                    return at(firstComponents, branch);
                case 3:
                    return at(parents, branch);
                case 4:
                    return at(splits, branch);
                default:
                    return at(ways, branch);
            }
        }
    }

    /** All that follows from the region; it is found anew when it is asked for after a change. */
    private static final class Roof {
        final Edges edgeList = new Edges();
        final Tree tree = new Tree();
        private final Phase nothing = new Phase();
        private final Phase[] phaseList = new Phase[MOST_PHASES];
        private final Walk walk = new Walk();
        private final long[] layer = new long[QUARTERS];
        private final long[] narrowed = new long[QUARTERS];
        private final int[] tally = new int[MOST_DEPTHS];
        private final int[] sampleDepths = new int[SIZE * SIZE];
        private final int[] faces = new int[SIZE * SIZE];
        private boolean fresh;
        int phaseCount;

        Roof() {
            for (int i = 0; i < phaseList.length; i++) {
                phaseList[i] = new Phase();
            }
        }

        void spoil() {
            fresh = false;
        }

        void refresh(Region region) {
            if (fresh) {
                return;
            }
            measure(region);
            Phase before = nothing;
            for (int i = 0; i < phaseCount; i++) {
                Phase phase = phaseAt(i);
                phase.build(before);
                before = phase;
            }
            edgeList.build(phaseAt(0).outline);
            tree.grow(this);
            findFaces();
            fresh = true;
        }

        /** A phase that does not exist is empty. */
        Phase phaseAt(int phase) {
            if (phase >= 0 && phase < phaseCount && phase < phaseList.length) {
                Phase found = phaseList[phase];
                if (found != null) {
                    return found;
                }
            }
            return nothing;
        }

        boolean hasPhase(int phase) {
            return phase >= 0 && phase < phaseCount;
        }

        boolean hasContour(int phase, int contour) {
            return hasPhase(phase) && contour >= 0 && contour < phaseAt(phase).outline.contours;
        }

        boolean hasSide(int phase, int contour, int side) {
            return hasContour(phase, contour) && side >= 0 && side < phaseAt(phase).outline.sidesOf(contour);
        }

        /**
         * The depth of a quarter cell counts the quarter cells to the outside, itself included. Its
         * center has the height (2 * depth - 1) / 8, so phase k has the depths from 2 * k + 2 on, and
         * the offset by h / 2 those from 2 * h + 1 on.
         */
        private void measure(Region region) {
            phaseCount = 0;
            Arrays.fill(sampleDepths, 0);
            Arrays.fill(tally, 0);
            loadLayer(region);
            int cells = layerCells();
            for (int depth = 1; depth < tally.length && cells > 0; depth++) {
                tally[depth] = cells;
                noteSamples(depth);
                if (depth % 2 == 0) {
                    phaseCount++;
                    copyLayer(phaseAt(phaseCount - 1));
                }
                shrinkLayer();
                cells = layerCells();
            }
        }

        private void loadLayer(Region region) {
            for (int y = 0; y < layer.length; y++) {
                layer[y] = 0L;
                for (int x = 0; x < SIZE; x++) {
                    if (region.has(x, y / 4)) {
                        layer[y] |= 15L << (4 * x);
                    }
                }
            }
        }

        private int layerCells() {
            int cells = 0;
            for (int y = 0; y < layer.length; y++) {
                cells += Long.bitCount(layer[y]);
            }
            return cells;
        }

        private void noteSamples(int depth) {
            for (int cell = 0; cell < sampleDepths.length; cell++) {
                long row = rowAt(layer, 4 * (cell / SIZE) + 1);
                if (((row >> (4 * (cell % SIZE))) & 1L) != 0L) {
                    sampleDepths[cell] = depth;
                }
            }
        }

        private void copyLayer(Phase phase) {
            for (int y = 0; y < layer.length; y++) {
                phase.setRow(y, layer[y]);
            }
        }

        /** Leaves the quarter cells all of whose eight neighbours are in the layer. */
        private void shrinkLayer() {
            for (int y = 0; y < layer.length && y < narrowed.length; y++) {
                narrowed[y] = layer[y] & (layer[y] << 1) & (layer[y] >>> 1);
            }
            for (int y = 0; y < layer.length; y++) {
                layer[y] = rowAt(narrowed, y - 1) & rowAt(narrowed, y) & rowAt(narrowed, y + 1);
            }
        }

        int areaAt(int halves) {
            return at(tally, 2 * halves + 1) / 4;
        }

        /** Between halves the area is a quadratic function of the distance: Simpson's rule is exact. */
        int volumeBelow() {
            int sum = 0;
            for (int i = 0; i < phaseCount; i++) {
                sum += areaAt(i) + at(tally, 2 * i + 2) + areaAt(i + 1);
            }
            return sum;
        }

        private void findFaces() {
            for (int cell = 0; cell < faces.length; cell++) {
                faces[cell] = at(sampleDepths, cell) == 0 ? -1 : lowestTouched(cell);
            }
        }

        /** In eighths: the square round the sample touches an edge with the side that the edge faces. */
        private int lowestTouched(int cell) {
            int height = 2 * at(sampleDepths, cell) - 1;
            int x = 8 * (cell % SIZE) + 1;
            int y = 8 * (cell / SIZE) + 3;
            int lowest = -1;
            for (int direction = EAST; direction <= SOUTH; direction++) {
                int across = isLevel(direction) ? y : x;
                int middle = isLevel(direction) ? x : y;
                int line = facesUp(direction) ? across - height : across + height;
                int edge = edgeList.along(direction, line, middle - height, middle + height, 1);
                if (edge >= 0 && (lowest < 0 || edge < lowest)) {
                    lowest = edge;
                }
            }
            return lowest;
        }

        int faceOf(int x, int y) {
            return at(faces, y * SIZE + x);
        }

        int edgeProperty(int edge, int what) {
            switch (what) {
                case 0:
                    return edgeList.directionOf(edge);
                case 1:
                    return edgeList.lineOf(edge);
                case 2:
                    return edgeList.lowOf(edge);
                case 3:
                    return edgeList.highOf(edge);
                case 4:
                    return phaseAt(0).outline.contourOf(edge);
                case 5:
                    return faceSize(edge);
                default:
                    return extinction(edge);
            }
        }

        private int faceSize(int edge) {
            int cells = 0;
            for (int cell = 0; cell < faces.length; cell++) {
                if (faces[cell] == edge) {
                    cells++;
                }
            }
            return cells;
        }

        private int extinction(int edge) {
            for (int i = 0; i < phaseCount; i++) {
                if (!drives(edge, i)) {
                    return i;
                }
            }
            return phaseCount;
        }

        private boolean drives(int edge, int phase) {
            Outline outline = phaseAt(phase).outline;
            int reach = 2 * phase + 1;
            int direction = edgeList.directionOf(edge);
            int line = 4 * edgeList.lineOf(edge) + (facesUp(direction) ? reach : -reach);
            for (int side = 0; side < outline.vertices; side++) {
                int from = 2 * (outline.lowOf(side) - reach);
                int to = 2 * (outline.highOf(side) + reach);
                if (outline.directionOf(side) == direction && outline.lineOf(side) == line
                        && edgeList.overlaps(edge, from, to)) {
                    return true;
                }
            }
            return false;
        }

        /** The reach, in quarters, is how far the edges have moved; a side reaches as far beyond its ends. */
        int originOf(int phase, int side, int what) {
            Outline outline = phaseAt(phase).outline;
            int reach = 2 * phase + 1;
            int direction = outline.directionOf(side);
            int line = outline.lineOf(side) + (facesUp(direction) ? -reach : reach);
            return edgeList.along(direction, 2 * line, 2 * (outline.lowOf(side) - reach),
                    2 * (outline.highOf(side) + reach), what);
        }

        int phaseProperty(int phase, int what) {
            Outline outline = phaseAt(phase).outline;
            switch (what) {
                case 0:
                    return at(tally, 2 * phase + 2);
                case 1:
                    return phaseAt(phase).components;
                case 2:
                    return outline.contours;
                case 3:
                    return outline.holes;
                case 4:
                    return outline.vertices;
                case 5:
                    return outline.leftTurns;
                case 6:
                    return outline.length;
                default:
                    return mergedSides(phase);
            }
        }

        private int mergedSides(int phase) {
            int sides = phaseAt(phase).outline.vertices;
            int merged = 0;
            for (int side = 0; side < sides; side++) {
                if (originOf(phase, side, 0) > 1) {
                    merged++;
                }
            }
            return merged;
        }

        private boolean isEvent(int phase) {
            Phase before = phaseAt(phase - 1);
            Phase after = phaseAt(phase);
            return before.outline.vertices != after.outline.vertices
                    || before.components != after.components
                    || before.outline.holes != after.outline.holes;
        }

        int eventCount() {
            int found = 0;
            for (int i = 1; i <= phaseCount; i++) {
                if (isEvent(i)) {
                    found++;
                }
            }
            return found;
        }

        private int eventPhase(int event) {
            int found = 0;
            for (int i = 1; i <= phaseCount; i++) {
                if (isEvent(i)) {
                    if (found == event) {
                        return i;
                    }
                    found++;
                }
            }
            return -1;
        }

        int eventProperty(int event, int what) {
            int place = eventPhase(event);
            Phase before = phaseAt(place - 1);
            Phase after = phaseAt(place);
            switch (what) {
                case 0:
                    return place;
                case 1:
                    return before.outline.vertices;
                case 2:
                    return after.outline.vertices;
                case 3:
                    return before.components;
                case 4:
                    return after.components;
                case 5:
                    return before.vanishing();
                default:
                    return before.splitting();
            }
        }

        int lastCommonPhase(int cell, int other) {
            for (int i = phaseCount - 1; i >= 0; i--) {
                int label = phaseAt(i).labelOf(cell);
                if (label >= 0 && label == phaseAt(i).labelOf(other)) {
                    return i;
                }
            }
            return -1;
        }

        int stepsBetween(int phase, int cell, int other) {
            return walk.length(phaseAt(phase), cell, other);
        }
    }
}
