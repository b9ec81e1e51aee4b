import java.util.Random;

/** Long runs of calls, each answer or exception compared with the oracle's. The seeds are fixed. */
public final class OracleTest {
    private static final int KINDS = 8;
    private static final int[] STRANGE = {-1, -2, Integer.MIN_VALUE, Integer.MAX_VALUE, 12, 13, 96, 97, 1000,
        Integer.MAX_VALUE - 5, 1 << 30, -12};

    private final RectilinearRoof roof = new RectilinearRoof();
    private final Oracle oracle = new Oracle();
    private final Random random;
    private final StringBuilder trail = new StringBuilder();

    private OracleTest(long seed) {
        // the first numbers of neighbouring seeds are nearly the same, so seeds are put far apart
        random = new Random(seed * 0x9E3779B97F4A7C15L);
    }

    public static void main(String[] args) {
        for (int seed = 0; seed < 40 && !Check.tooManyWrong(); seed++) {
            new OracleTest(seed).mixedRun();
        }
        for (int seed = 0; seed < 64 && !Check.tooManyWrong(); seed++) {
            OracleTest test = new OracleTest(1000 + seed);
            for (int i = 0; i < 3; i++) {
                // other regions on the same object: nothing may stay from the one before
                test.wholeState((seed * (2 * i + 1) + i) % KINDS);
            }
        }
        for (int seed = 0; seed < 300 && !Check.tooManyWrong(); seed++) {
            new OracleTest(5000 + seed).texts();
        }
        Check.finish("OracleTest");
    }

    private int below(int n) {
        return random.nextInt(n);
    }

    /** Mostly a number that may be right, at times one that is wrong. */
    private int about(int size) {
        int kind = below(20);
        if (kind == 0) {
            return STRANGE[below(STRANGE.length)];
        }
        return kind == 1 ? size : below(Math.max(1, size));
    }

    private void compare(String call, Check.Call got, Check.Call due) {
        String a = Check.outcome(got);
        String b = Check.outcome(due);
        if (!a.equals(b)) {
            System.out.println(trail);
        }
        Check.same(call, a, b);
    }

    private void rectangle(int op, int x, int y, int w, int h) {
        String call = "rectangle(" + op + ", " + x + ", " + y + ", " + w + ", " + h + ")";
        trail.append(call).append("; ");
        compare(call, () -> roof.rectangle(op, x, y, w, h), () -> oracle.rectangle(op, x, y, w, h));
    }

    private void edit() {
        int x = below(12);
        int y = below(12);
        rectangle(below(3), x, y, 1 + below(12 - x), 1 + below(12 - y));
    }

    private void append(String text) {
        for (int i = 0; i < text.length(); i += 4) {
            int packed = 0;
            for (int j = i; j < i + 4; j++) {
                packed = packed << 8 | (j < text.length() ? text.charAt(j) : 0);
            }
            int bytes = packed;
            compare("append " + text, () -> roof.append(bytes), () -> oracle.append(bytes));
        }
    }

    private String command() {
        int kind = below(8);
        if (kind == 0) {
            return "r;";
        }
        if (kind == 1) {
            return "m;";
        }
        int x = below(12);
        int y = below(12);
        return "+-^".charAt(below(3)) + "" + x + "," + y + "," + (1 + below(12 - x)) + "," + (1 + below(12 - y))
                + ";";
    }

    private String text() {
        StringBuilder s = new StringBuilder();
        int commands = below(6);
        for (int i = 0; i < commands; i++) {
            s.append(command());
        }
        int harm = below(3);
        for (int i = 0; i < harm && s.length() > 0; i++) {
            int place = below(s.length());
            char c = "+-^rm;,0123456789x".charAt(below(18));
            switch (below(3)) {
                case 0:
                    s.setCharAt(place, c);
                    break;
                case 1:
                    s.insert(place, c);
                    break;
                default:
                    s.deleteCharAt(place);
            }
        }
        return s.toString();
    }

    private void execute() {
        trail.append("execute(); ");
        compare("execute", roof::execute, oracle::execute);
        compare("errorPosition", roof::errorPosition, oracle::errorPosition);
    }

    private void history() {
        int kind = below(5);
        trail.append("history ").append(kind).append("; ");
        switch (kind) {
            case 0:
                compare("undo", roof::undo, oracle::undo);
                break;
            case 1:
                compare("redo", roof::redo, oracle::redo);
                break;
            case 2:
                compare("save", roof::save, oracle::save);
                break;
            case 3:
                compare("restore", roof::restore, oracle::restore);
                break;
            default:
                if (below(4) == 0) {
                    compare("clear", roof::clear, oracle::clear);
                }
        }
    }

    private void mixedRun() {
        for (int i = 0; i < 400; i++) {
            int kind = below(30);
            if (kind < 3) {
                edit();
            } else if (kind == 3) {
                rectangle(about(3), about(12), about(12), about(13), about(13));
            } else if (kind == 4) {
                append(text());
                execute();
            } else if (kind < 7) {
                history();
            } else if (kind == 7) {
                int packed = below(2) == 0 ? random.nextInt() : 0x2b303030 + below(16);
                compare("append", () -> roof.append(packed), () -> oracle.append(packed));
            } else {
                ask();
            }
        }
    }

    private void ask() {
        int a = about(12);
        int b = about(12);
        int c = about(12);
        int d = about(12);
        int phase = about(oracle.phases());
        boolean real = phase >= 0 && phase < oracle.phases();
        int contours = real ? oracle.phase(phase, 2) : 1;
        int contour = about(contours);
        int side = about(real && contour >= 0 && contour < contours ? oracle.contour(phase, contour, 0) : 4);
        int what = about(8);
        switch (below(24)) {
            case 0:
                compare("contains", () -> roof.contains(a, b) ? 1 : 0, () -> oracle.contains(a, b) ? 1 : 0);
                break;
            case 1:
                compare("edges", roof::edges, oracle::edges);
                break;
            case 2:
            case 3:
                int edge = about(oracle.edges());
                compare("edge " + edge + " " + what, () -> roof.edge(edge, what), () -> oracle.edge(edge, what));
                break;
            case 4:
                compare("corners", roof::corners, oracle::corners);
                break;
            case 5:
                int group = about(oracle.groups());
                compare("group " + group + " " + what, () -> roof.group(group, what),
                        () -> oracle.group(group, what));
                break;
            case 6:
                compare("symmetries", roof::symmetries, oracle::symmetries);
                break;
            case 7:
                int px = about(97);
                int py = about(97);
                compare("height " + px + " " + py, () -> roof.height(px, py), () -> oracle.height(px, py));
                break;
            case 8:
                compare("face " + a + " " + b, () -> roof.face(a, b), () -> oracle.face(a, b));
                break;
            case 9:
                int halves = about(below(2) == 0 ? 6 : 25);
                compare("area " + halves, () -> roof.area(halves), () -> oracle.area(halves));
                break;
            case 10:
                compare("volume", roof::volume, oracle::volume);
                break;
            case 11:
                compare("phases", roof::phases, oracle::phases);
                break;
            case 12:
            case 13:
                compare("phase " + phase + " " + what, () -> roof.phase(phase, what),
                        () -> oracle.phase(phase, what));
                break;
            case 14:
                compare("contour", () -> roof.contour(phase, contour, what),
                        () -> oracle.contour(phase, contour, what));
                break;
            case 15:
                int axis = about(2);
                compare("vertex", () -> roof.vertex(phase, contour, side, axis),
                        () -> oracle.vertex(phase, contour, side, axis));
                break;
            case 16:
                int which = about(3);
                compare("origin", () -> roof.origin(phase, contour, side, which),
                        () -> oracle.origin(phase, contour, side, which));
                break;
            case 17:
                compare("component", () -> roof.component(phase, a, b), () -> oracle.component(phase, a, b));
                break;
            case 18:
                compare("events", roof::events, oracle::events);
                break;
            case 19:
                int event = about(oracle.events());
                compare("event", () -> roof.event(event, what), () -> oracle.event(event, what));
                break;
            case 20:
                int branch = about(oracle.branches());
                compare("branch", () -> roof.branch(branch, what), () -> oracle.branch(branch, what));
                break;
            case 21:
                compare("clearance", () -> roof.clearance(a, b, c, d), () -> oracle.clearance(a, b, c, d));
                break;
            case 22:
                compare("path", () -> roof.path(phase, a, b, c, d), () -> oracle.path(phase, a, b, c, d));
                break;
            default:
                compare("count", () -> roof.count(what), () -> oracle.count(what));
        }
    }

    /** Regions of many kinds, each looked at whole. */
    private void wholeState(int kind) {
        compare("clear", roof::clear, oracle::clear);
        if (kind == 0) {
            noise(2 + below(8));
        } else if (kind == 1) {
            rectangle(0, 0, 0, 12, 12);
            int holes = 1 + below(12);
            for (int i = 0; i < holes; i++) {
                rectangle(1, below(12), below(12), 1, 1);
            }
        } else if (kind == 2) {
            checkerboard(1 + below(3), below(2) * below(2));
        } else if (kind == 3) {
            rooms();
        } else if (kind == 4) {
            stripes();
        } else {
            int edits = 1 + below(10);
            for (int i = 0; i < edits; i++) {
                edit();
            }
        }
        everything();
    }

    private void noise(int tenths) {
        for (int x = 0; x < 12; x++) {
            for (int y = 0; y < 12; y++) {
                if (below(10) < tenths) {
                    rectangle(0, x, y, 1, 1);
                }
            }
        }
    }

    private void checkerboard(int size, int gap) {
        for (int x = 0; x < 12; x++) {
            for (int y = 0; y < 12; y++) {
                if ((x / size + y / size) % 2 == gap) {
                    rectangle(2, x, y, 1, 1);
                }
            }
        }
    }

    /** The most runs in the rows, or one long winding corridor. */
    private void stripes() {
        int width = 1 + below(3);
        boolean winding = below(2) == 0;
        for (int x = 0; x + width <= 12; x += width + 1) {
            rectangle(0, x, 0, width, 12);
            if (winding && x + width < 12) {
                rectangle(0, x + width, x % 2 == 0 ? 0 : 11, 1, 1);
            }
        }
        if (below(2) == 0) {
            append("r;");
            execute();
        }
    }

    /** Rooms with doors, so that components split early and at different distances. */
    private void rooms() {
        int rooms = 2 + below(4);
        for (int i = 0; i < rooms; i++) {
            int w = 2 + below(4);
            int h = 2 + below(4);
            rectangle(0, below(13 - w), below(13 - h), w, h);
        }
        rectangle(0, 0, below(11), 12, 1 + below(2));
        rectangle(0, below(11), 0, 1 + below(2), 12);
    }

    private void everything() {
        compare("edges", roof::edges, oracle::edges);
        compare("corners", roof::corners, oracle::corners);
        compare("symmetries", roof::symmetries, oracle::symmetries);
        compare("volume", roof::volume, oracle::volume);
        compare("phases", roof::phases, oracle::phases);
        list("groups", oracle.groups(), 4, roof::groups, roof::group, oracle::group);
        list("edges", oracle.edges(), 7, roof::edges, roof::edge, oracle::edge);
        list("events", oracle.events(), 7, roof::events, roof::event, oracle::event);
        list("branches", oracle.branches(), 6, roof::branches, roof::branch, oracle::branch);
        list("phases", oracle.phases(), 8, roof::phases, roof::phase, oracle::phase);
        for (int h = 0; h <= 24; h++) {
            int halves = h;
            compare("area " + h, () -> roof.area(halves), () -> oracle.area(halves));
        }
        for (int k = 0; k < oracle.phases(); k++) {
            wholePhase(k);
        }
        for (int i = 0; i < 144; i++) {
            int x = i % 12;
            int y = i / 12;
            compare("face " + x + " " + y, () -> roof.face(x, y), () -> oracle.face(x, y));
            int otherX = below(12);
            int otherY = below(12);
            compare("clearance", () -> roof.clearance(x, y, otherX, otherY),
                    () -> oracle.clearance(x, y, otherX, otherY));
        }
        for (int i = 0; i < 400; i++) {
            int x = below(97);
            int y = below(97);
            compare("height " + x + " " + y, () -> roof.height(x, y), () -> oracle.height(x, y));
        }
    }

    private interface Property {
        int of(int index, int what);
    }

    private void list(String name, int size, int whats, Check.Call got, Property mine, Property theirs) {
        compare(name, got, () -> size);
        for (int i = -1; i <= size; i++) {
            for (int what = -1; what <= whats; what++) {
                int a = i;
                int b = what;
                compare(name + " " + a + " " + b, () -> mine.of(a, b), () -> theirs.of(a, b));
            }
        }
    }

    private void wholePhase(int k) {
        int contours = oracle.phase(k, 2);
        for (int c = -1; c <= contours; c++) {
            int contour = c;
            for (int w = -1; w <= 4; w++) {
                int what = w;
                compare("contour " + k + " " + c + " " + w, () -> roof.contour(k, contour, what),
                        () -> oracle.contour(k, contour, what));
            }
            int sides = c >= 0 && c < contours ? oracle.contour(k, c, 0) : 0;
            for (int s = -1; s <= sides; s++) {
                int side = s;
                for (int w = -1; w <= 3; w++) {
                    int what = w;
                    compare("vertex " + k + " " + c + " " + s + " " + w,
                            () -> roof.vertex(k, contour, side, what), () -> oracle.vertex(k, contour, side, what));
                    compare("origin " + k + " " + c + " " + s + " " + w,
                            () -> roof.origin(k, contour, side, what), () -> oracle.origin(k, contour, side, what));
                }
            }
        }
        for (int i = 0; i < 144; i++) {
            int x = i % 12;
            int y = i / 12;
            compare("component " + k + " " + x + " " + y, () -> roof.component(k, x, y),
                    () -> oracle.component(k, x, y));
        }
        for (int i = 0; i < 12; i++) {
            int x = below(12);
            int y = below(12);
            int otherX = below(12);
            int otherY = below(12);
            compare("path " + k + " " + x + " " + y + " " + otherX + " " + otherY,
                    () -> roof.path(k, x, y, otherX, otherY), () -> oracle.path(k, x, y, otherX, otherY));
        }
    }

    private void texts() {
        for (int i = 0; i < 20; i++) {
            append(text());
            compare("count 3", () -> roof.count(3), () -> oracle.count(3));
            execute();
            compare("count 0", () -> roof.count(0), () -> oracle.count(0));
        }
    }
}
