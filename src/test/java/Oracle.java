import java.util.ArrayList;
import java.util.Arrays;
import java.util.HashMap;
import java.util.HashSet;
import java.util.List;
import java.util.Map;
import java.util.Set;

/** The document's definitions taken word for word, with no regard to speed, as a check of the class. */
final class Oracle {
    private static final int[] DX = {1, 0, -1, 0};
    private static final int[] DY = {0, 1, 0, -1};

    /** A side or an edge: direction, line, low, high, contour. */
    private record Side(int direction, int line, int low, int high, int contour) {
    }

    private static final class Contour {
        final List<int[]> vertices = new ArrayList<>();
        final List<Integer> directions = new ArrayList<>();
        int length;
        boolean hole;
        int component;
    }

    private static final class Phase {
        final boolean[][] in = new boolean[48][48];
        final int[][] label = new int[48][48];
        final List<int[]> firsts = new ArrayList<>();
        final List<Contour> contours = new ArrayList<>();
        final List<Side> sides = new ArrayList<>();
        int cells;
        int holes;
        int lefts;
        int length;
    }

    private static final class Branch {
        int first;
        int last;
        int component;
        int parent;
        final List<Branch> split = new ArrayList<>();

        int longest() {
            int best = 0;
            for (Branch b : split) {
                best = Math.max(best, b.longest());
            }
            return best + 1;
        }
    }

    private boolean[][] region = new boolean[12][12];
    private boolean[][] saved = null;
    private final List<boolean[][]> past = new ArrayList<>();
    private final List<boolean[][]> future = new ArrayList<>();
    private String buffer = "";
    private int error = -1;

    private boolean stale = true;
    private final int[][] centers = new int[48][48];
    private final List<Phase> phases = new ArrayList<>();
    private final List<Side> edges = new ArrayList<>();
    private final Set<String> corners = new HashSet<>();
    private final List<Branch> branches = new ArrayList<>();

    // ---- editing

    private static boolean[][] copy(boolean[][] cells) {
        boolean[][] result = new boolean[12][];
        for (int x = 0; x < 12; x++) {
            result[x] = cells[x].clone();
        }
        return result;
    }

    private void become(boolean[][] next) {
        past.add(region);
        if (past.size() > 8) {
            past.remove(0);
        }
        future.clear();
        region = next;
        stale = true;
    }

    private static int size(boolean[][] cells) {
        int n = 0;
        for (boolean[] column : cells) {
            for (boolean b : column) {
                n += b ? 1 : 0;
            }
        }
        return n;
    }

    private static void paint(boolean[][] cells, int op, int x, int y, int w, int h) {
        for (int i = x; i < x + w; i++) {
            for (int j = y; j < y + h; j++) {
                cells[i][j] = op == 0 || op == 2 && !cells[i][j];
            }
        }
    }

    int rectangle(int op, int x, int y, int w, int h) {
        if (op != 0 && op != 1 && op != 2) {
            throw new IllegalArgumentException();
        }
        cell(x, y);
        if (w < 1 || w > 12 - x || h < 1 || h > 12 - y) {
            throw new IndexOutOfBoundsException();
        }
        boolean[][] next = copy(region);
        paint(next, op, x, y, w, h);
        become(next);
        return size(region);
    }

    int clear() {
        int n = size(region);
        become(new boolean[12][12]);
        return n;
    }

    int append(int packed) {
        StringBuilder more = new StringBuilder();
        for (int i = 0; i < 4; i++) {
            int b = (int) ((packed & 0xffffffffL) / (1L << (8 * (3 - i))) % 256);
            if (b != 0 && (b < 33 || b > 126)) {
                throw new IllegalArgumentException();
            }
            if (b != 0) {
                more.append((char) b);
            }
        }
        if (buffer.length() + more.length() > 60) {
            throw new IllegalStateException();
        }
        buffer += more;
        return buffer.length();
    }

    /** Reads the commands of a text into a list; answers the position of the error or -1. */
    private static int parse(String text, List<int[]> commands) {
        int at = 0;
        do {
            if (at == text.length()) {
                return at;
            }
            char c = text.charAt(at++);
            if (c == 'r' || c == 'm') {
                commands.add(new int[] {c});
            } else if (c == '+' || c == '-' || c == '^') {
                int[] command = {c, 0, 0, 0, 0};
                for (int i = 1; i <= 4; i++) {
                    int from = at;
                    while (at < text.length() && Character.isDigit(text.charAt(at))
                            && text.substring(from, at + 1).matches("0|[1-9][0-9]?")) {
                        at++;
                    }
                    if (at == from) {
                        return at;
                    }
                    command[i] = Integer.parseInt(text.substring(from, at));
                    int least = i < 3 ? 0 : 1;
                    int most = i < 3 ? 11 : 12 - command[i - 2];
                    if (command[i] < least || command[i] > most) {
                        return from;
                    }
                    if (i < 4) {
                        if (at == text.length() || text.charAt(at) != ',') {
                            return at;
                        }
                        at++;
                    }
                }
                commands.add(command);
            } else {
                return at - 1;
            }
            if (at == text.length() || text.charAt(at) != ';') {
                return at;
            }
            at++;
        } while (at < text.length());
        return -1;
    }

    int execute() {
        List<int[]> commands = new ArrayList<>();
        error = parse(buffer, commands);
        buffer = "";
        if (error >= 0) {
            throw new IllegalArgumentException();
        }
        boolean[][] now = copy(region);
        for (int[] c : commands) {
            if (c.length == 5) {
                paint(now, "+-^".indexOf(c[0]), c[1], c[2], c[3], c[4]);
                continue;
            }
            boolean[][] next = new boolean[12][12];
            for (int x = 0; x < 12; x++) {
                for (int y = 0; y < 12; y++) {
                    if (c[0] == 'r') {
                        next[11 - y][x] = now[x][y];
                    } else {
                        next[11 - x][y] = now[x][y];
                    }
                }
            }
            now = next;
        }
        become(now);
        return commands.size();
    }

    int errorPosition() {
        return error;
    }

    int undo() {
        if (past.isEmpty()) {
            throw new IllegalStateException();
        }
        future.add(region);
        region = past.remove(past.size() - 1);
        stale = true;
        return past.size();
    }

    int redo() {
        if (future.isEmpty()) {
            throw new IllegalStateException();
        }
        past.add(region);
        region = future.remove(future.size() - 1);
        stale = true;
        return future.size();
    }

    int save() {
        saved = copy(region);
        return size(region);
    }

    int restore() {
        if (saved == null) {
            throw new IllegalStateException();
        }
        become(copy(saved));
        return size(region);
    }

    private static void cell(int x, int y) {
        if (x < 0 || x > 11 || y < 0 || y > 11) {
            throw new IndexOutOfBoundsException();
        }
    }

    private static void what(int what, int most) {
        if (what < 0 || what > most) {
            throw new IllegalArgumentException();
        }
    }

    private static void index(int index, int size) {
        if (index < 0 || index >= size) {
            throw new IndexOutOfBoundsException();
        }
    }

    int count(int what) {
        what(what, 3);
        return new int[] {size(region), past.size(), future.size(), buffer.length()}[what];
    }

    // ---- finding what follows from the region

    private boolean eighth(int x, int y) {
        return x >= 0 && x < 96 && y >= 0 && y < 96 && region[x / 8][y / 8];
    }

    /** Grows the open square as long as the ring of eighths that it gains is all in the region. */
    private int grow(int x, int y) {
        int r = 0;
        while (true) {
            for (int i = -r - 1; i <= r; i++) {
                if (!eighth(x + i, y - r - 1) || !eighth(x + i, y + r)
                        || !eighth(x - r - 1, y + i) || !eighth(x + r, y + i)) {
                    return r;
                }
            }
            r++;
        }
    }

    private void fresh() {
        if (!stale) {
            return;
        }
        stale = false;
        phases.clear();
        edges.clear();
        corners.clear();
        branches.clear();
        for (int x = 0; x < 48; x++) {
            for (int y = 0; y < 48; y++) {
                centers[x][y] = grow(2 * x + 1, 2 * y + 1);
            }
        }
        for (int k = 0;; k++) {
            Phase p = makePhase(k);
            if (p.cells == 0) {
                break;
            }
            phases.add(p);
        }
        makeEdges();
        makeBranches();
    }

    private Phase makePhase(int k) {
        Phase p = new Phase();
        for (int y = 0; y < 48; y++) {
            for (int x = 0; x < 48; x++) {
                p.in[x][y] = centers[x][y] > 4 * k + 2;
                p.cells += p.in[x][y] ? 1 : 0;
                p.label[x][y] = p.in[x][y] ? y * 48 + x : -1;
            }
        }
        spreadLeastLabels(p);
        for (int y = 0; y < 48; y++) {
            for (int x = 0; x < 48; x++) {
                if (p.label[x][y] == y * 48 + x) {
                    p.firsts.add(new int[] {x, y});
                }
            }
        }
        for (int y = 0; y < 48; y++) {
            for (int x = 0; x < 48; x++) {
                for (int i = 0; i < p.firsts.size() && p.in[x][y]; i++) {
                    int[] f = p.firsts.get(i);
                    if (p.label[x][y] == f[1] * 48 + f[0]) {
                        p.label[x][y] = 10000 + i;
                    }
                }
            }
        }
        for (int[] column : p.label) {
            for (int y = 0; y < 48; y++) {
                column[y] = column[y] < 0 ? -1 : column[y] - 10000;
            }
        }
        makeContours(p);
        return p;
    }

    private static void spreadLeastLabels(Phase p) {
        boolean moved = true;
        while (moved) {
            moved = false;
            for (int pass = 0; pass < 2; pass++) {
                for (int n = 0; n < 2304; n++) {
                    int c = pass == 0 ? n : 2303 - n;
                    int x = c % 48;
                    int y = c / 48;
                    for (int d = 0; d < 4; d++) {
                        if (has(p, x, y) && has(p, x + DX[d], y + DY[d])
                                && p.label[x + DX[d]][y + DY[d]] < p.label[x][y]) {
                            p.label[x][y] = p.label[x + DX[d]][y + DY[d]];
                            moved = true;
                        }
                    }
                }
            }
        }
    }

    private static boolean has(Phase p, int x, int y) {
        return x >= 0 && x < 48 && y >= 0 && y < 48 && p.in[x][y];
    }

    private static void makeContours(Phase p) {
        Map<Integer, Integer> out = new HashMap<>();
        for (int x = 0; x < 48; x++) {
            for (int y = 0; y < 48; y++) {
                if (!p.in[x][y]) {
                    continue;
                }
                segment(out, !has(p, x, y - 1), x, y, 0);
                segment(out, !has(p, x + 1, y), x + 1, y, 1);
                segment(out, !has(p, x, y + 1), x + 1, y + 1, 2);
                segment(out, !has(p, x - 1, y), x, y + 1, 3);
            }
        }
        while (!out.isEmpty()) {
            int start = out.keySet().iterator().next();
            List<int[]> points = new ArrayList<>();
            int at = start;
            do {
                int d = out.remove(at);
                points.add(new int[] {at % 100, at / 100, d});
                at += DX[d] + 100 * DY[d];
            } while (at != start);
            p.contours.add(makeContour(p, points));
        }
        p.contours.sort((a, b) -> order(a.vertices.get(0)) - order(b.vertices.get(0)));
        for (int c = 0; c < p.contours.size(); c++) {
            Contour contour = p.contours.get(c);
            p.holes += contour.hole ? 1 : 0;
            p.length += contour.length;
            int n = contour.vertices.size();
            for (int i = 0; i < n; i++) {
                int[] a = contour.vertices.get(i);
                int[] b = contour.vertices.get((i + 1) % n);
                int d = contour.directions.get(i);
                int axis = d % 2;
                p.sides.add(new Side(d, a[1 - axis], Math.min(a[axis], b[axis]),
                        Math.max(a[axis], b[axis]), c));
                int before = contour.directions.get((i + n - 1) % n);
                p.lefts += (before + 1) % 4 == d ? 1 : 0;
            }
        }
    }

    private static int order(int[] point) {
        return point[1] * 100 + point[0];
    }

    private static void segment(Map<Integer, Integer> out, boolean real, int x, int y, int d) {
        if (real && out.put(y * 100 + x, d) != null) {
            throw new UnsupportedOperationException("two contours meet");
        }
    }

    private static Contour makeContour(Phase p, List<int[]> points) {
        int n = points.size();
        List<Integer> bends = new ArrayList<>();
        for (int i = 0; i < n; i++) {
            if (points.get(i)[2] != points.get((i + n - 1) % n)[2]) {
                bends.add(i);
            }
        }
        int least = 0;
        int twice = 0;
        for (int i = 0; i < bends.size(); i++) {
            int[] a = points.get(bends.get(i));
            int[] b = points.get(bends.get((i + 1) % bends.size()));
            twice += a[0] * b[1] - b[0] * a[1];
            if (order(a) < order(points.get(bends.get(least)))) {
                least = i;
            }
        }
        Contour c = new Contour();
        c.length = n;
        c.hole = twice < 0;
        for (int i = 0; i < bends.size(); i++) {
            int[] a = points.get(bends.get((least + i) % bends.size()));
            c.vertices.add(a);
            c.directions.add(a[2]);
        }
        int[] first = c.vertices.get(0);
        // the quarter cell on the left of the first side
        int x = first[2] == 0 || first[2] == 3 ? first[0] : first[0] - 1;
        int y = first[2] == 0 || first[2] == 1 ? first[1] : first[1] - 1;
        c.component = p.label[x][y];
        return c;
    }

    private void makeEdges() {
        if (phases.isEmpty()) {
            return;
        }
        Phase p = phases.get(0);
        for (int c = 0; c < p.contours.size(); c++) {
            Contour contour = p.contours.get(c);
            int n = contour.vertices.size();
            int[][] ends = new int[n][];
            for (int i = 0; i < n; i++) {
                int in = contour.directions.get((i + n - 1) % n);
                int on = contour.directions.get(i);
                int[] v = contour.vertices.get(i);
                // both sides move back by a quarter, away from what lies on their left
                int x = v[0] - DX[(in + 1) % 4] - DX[(on + 1) % 4];
                int y = v[1] - DY[(in + 1) % 4] - DY[(on + 1) % 4];
                if (x % 4 != 0 || y % 4 != 0) {
                    throw new UnsupportedOperationException("an edge does not end in the grid");
                }
                ends[i] = new int[] {x / 4, y / 4};
                corners.add(ends[i][0] + " " + ends[i][1]);
            }
            for (int i = 0; i < n; i++) {
                int d = contour.directions.get(i);
                int[] a = ends[i];
                int[] b = ends[(i + 1) % n];
                edges.add(new Side(d, a[1 - d % 2], Math.min(a[d % 2], b[d % 2]),
                        Math.max(a[d % 2], b[d % 2]), c));
            }
        }
    }

    private int parent(int k, int component) {
        int[] first = phases.get(k).firsts.get(component);
        return phases.get(k - 1).label[first[0]][first[1]];
    }

    private List<Integer> children(int k, int component) {
        List<Integer> result = new ArrayList<>();
        if (k + 1 < phases.size()) {
            for (int i = 0; i < phases.get(k + 1).firsts.size(); i++) {
                if (parent(k + 1, i) == component) {
                    result.add(i);
                }
            }
        }
        return result;
    }

    private void makeBranches() {
        if (!phases.isEmpty()) {
            for (int i = 0; i < phases.get(0).firsts.size(); i++) {
                makeBranch(0, i, -1);
            }
        }
    }

    private Branch makeBranch(int k, int component, int parent) {
        Branch b = new Branch();
        int number = branches.size();
        branches.add(b);
        b.first = k;
        b.component = component;
        b.parent = parent;
        List<Integer> next = children(k, component);
        while (next.size() == 1) {
            k++;
            next = children(k, next.get(0));
        }
        b.last = k;
        for (int child : next) {
            b.split.add(makeBranch(k + 1, child, number));
        }
        return b;
    }

    // ---- asking

    boolean contains(int x, int y) {
        cell(x, y);
        return region[x][y];
    }

    int edges() {
        fresh();
        return edges.size();
    }

    int edge(int edge, int what) {
        fresh();
        index(edge, edges.size());
        what(what, 6);
        Side e = edges.get(edge);
        if (what == 5) {
            int n = 0;
            for (int x = 0; x < 12; x++) {
                for (int y = 0; y < 12; y++) {
                    n += face(x, y) == edge ? 1 : 0;
                }
            }
            return n;
        }
        if (what == 6) {
            for (int k = 0; k < phases.size(); k++) {
                boolean any = false;
                for (Side s : phases.get(k).sides) {
                    any |= comes(k, s, e);
                }
                if (!any) {
                    return k;
                }
            }
            return phases.size();
        }
        return new int[] {e.direction, e.line, e.low, e.high, e.contour}[what];
    }

    int corners() {
        fresh();
        return corners.size();
    }

    private List<List<Side>> grouped() {
        fresh();
        List<List<Side>> groups = new ArrayList<>();
        for (Side e : edges) {
            List<Side> home = null;
            for (List<Side> g : groups) {
                if (g.get(0).direction == e.direction && g.get(0).line == e.line) {
                    home = g;
                }
            }
            if (home == null) {
                home = new ArrayList<>();
                groups.add(home);
            }
            home.add(e);
        }
        return groups;
    }

    int groups() {
        return grouped().size();
    }

    int group(int group, int what) {
        List<List<Side>> groups = grouped();
        index(group, groups.size());
        what(what, 3);
        List<Side> g = groups.get(group);
        int sum = 0;
        for (Side e : g) {
            sum += e.high - e.low;
        }
        return new int[] {g.get(0).direction, g.get(0).line, g.size(), sum}[what];
    }

    int symmetries() {
        Set<List<Integer>> shape = new HashSet<>();
        int[][] maps = {{1, 0, 0, 1}, {0, -1, 1, 0}, {-1, 0, 0, -1}, {0, 1, -1, 0},
            {-1, 0, 0, 1}, {1, 0, 0, -1}, {0, 1, 1, 0}, {0, -1, -1, 0}};
        int n = 0;
        for (int i = 0; i < 8; i++) {
            Set<List<Integer>> mapped = moved(maps[i]);
            if (i == 0) {
                shape = mapped;
            }
            n += mapped.equals(shape) ? 1 : 0;
        }
        return n;
    }

    private Set<List<Integer>> moved(int[] m) {
        List<int[]> all = new ArrayList<>();
        int lowX = 100;
        int lowY = 100;
        for (int x = 0; x < 12; x++) {
            for (int y = 0; y < 12; y++) {
                if (region[x][y]) {
                    int[] p = {m[0] * x + m[1] * y, m[2] * x + m[3] * y};
                    all.add(p);
                    lowX = Math.min(lowX, p[0]);
                    lowY = Math.min(lowY, p[1]);
                }
            }
        }
        Set<List<Integer>> result = new HashSet<>();
        for (int[] p : all) {
            result.add(Arrays.asList(p[0] - lowX, p[1] - lowY));
        }
        return result;
    }

    int height(int x, int y) {
        if (x < 0 || x > 96 || y < 0 || y > 96) {
            throw new IndexOutOfBoundsException();
        }
        return grow(x, y);
    }

    int face(int x, int y) {
        cell(x, y);
        fresh();
        if (!region[x][y]) {
            return -1;
        }
        int px = 8 * x + 1;
        int py = 8 * y + 3;
        int r = grow(px, py);
        for (int i = 0; i < edges.size(); i++) {
            Side e = edges.get(i);
            boolean level = e.direction % 2 == 0;
            int p = level ? py : px;
            int q = level ? px : py;
            boolean up = e.direction == 0 || e.direction == 3;
            boolean rightSide = up ? p > 8 * e.line : p < 8 * e.line;
            boolean onLine = p - r == 8 * e.line || p + r == 8 * e.line;
            int common = Math.min(q + r, 8 * e.high) - Math.max(q - r, 8 * e.low);
            if (rightSide && onLine && common > 0) {
                return i;
            }
        }
        throw new UnsupportedOperationException("a cell without a face");
    }

    int area(int halves) {
        if (halves < 0 || halves > 24) {
            throw new IllegalArgumentException();
        }
        int n = 0;
        for (int x = 0; x < 48; x++) {
            for (int y = 0; y < 48; y++) {
                n += grow(2 * x + 1, 2 * y + 1) > 4 * halves ? 1 : 0;
            }
        }
        if (n % 4 != 0) {
            throw new UnsupportedOperationException("not halves");
        }
        return n / 4;
    }

    /** The roof is linear on the two triangles into which a diagonal of its unit cell cuts each half cell. */
    int volume() {
        int sum = 0;
        for (int x = 0; x < 24; x++) {
            for (int y = 0; y < 24; y++) {
                int a = grow(4 * x, 4 * y);
                int b = grow(4 * x + 4, 4 * y);
                int c = grow(4 * x + 4, 4 * y + 4);
                int d = grow(4 * x, 4 * y + 4);
                sum += x % 2 == y % 2 ? a + b + c + a + c + d : a + b + d + b + c + d;
            }
        }
        if (sum % 4 != 0) {
            throw new UnsupportedOperationException("not 48ths");
        }
        return sum / 4;
    }

    int phases() {
        fresh();
        return phases.size();
    }

    private boolean comes(int k, Side s, Side e) {
        int r = 2 * k + 1;
        boolean up = e.direction == 0 || e.direction == 3;
        return s.direction == e.direction && s.line == 4 * e.line + (up ? r : -r)
                && Math.max(s.low - r, 4 * e.low) < Math.min(s.high + r, 4 * e.high);
    }

    private List<Integer> origins(int k, Side s) {
        List<Integer> result = new ArrayList<>();
        for (int i = 0; i < edges.size(); i++) {
            if (comes(k, s, edges.get(i))) {
                result.add(i);
            }
        }
        return result;
    }

    int phase(int phase, int what) {
        fresh();
        index(phase, phases.size());
        what(what, 7);
        Phase p = phases.get(phase);
        int merged = 0;
        for (Side s : p.sides) {
            merged += origins(phase, s).size() > 1 ? 1 : 0;
        }
        return new int[] {p.cells, p.firsts.size(), p.contours.size(), p.holes, p.sides.size(), p.lefts,
            p.length, merged}[what];
    }

    private Contour contour(int phase, int contour) {
        fresh();
        index(phase, phases.size());
        index(contour, phases.get(phase).contours.size());
        return phases.get(phase).contours.get(contour);
    }

    int contour(int phase, int contour, int what) {
        Contour c = contour(phase, contour);
        what(what, 3);
        return new int[] {c.vertices.size(), c.hole ? 1 : 0, c.component, c.length}[what];
    }

    int vertex(int phase, int contour, int vertex, int axis) {
        Contour c = contour(phase, contour);
        index(vertex, c.vertices.size());
        what(axis, 1);
        return c.vertices.get(vertex)[axis];
    }

    int origin(int phase, int contour, int side, int what) {
        Contour c = contour(phase, contour);
        index(side, c.vertices.size());
        what(what, 2);
        int before = 0;
        for (int i = 0; i < contour; i++) {
            before += phases.get(phase).contours.get(i).vertices.size();
        }
        List<Integer> from = origins(phase, phases.get(phase).sides.get(before + side));
        return what == 0 ? from.size() : from.get(what == 1 ? 0 : from.size() - 1);
    }

    int component(int phase, int x, int y) {
        fresh();
        index(phase, phases.size());
        cell(x, y);
        return phases.get(phase).label[4 * x][4 * y + 1];
    }

    private int[] numbers(int k) {
        if (k >= phases.size()) {
            return new int[3];
        }
        Phase p = phases.get(k);
        return new int[] {p.sides.size(), p.firsts.size(), p.holes};
    }

    private List<Integer> eventList() {
        fresh();
        List<Integer> result = new ArrayList<>();
        for (int k = 1; k <= phases.size(); k++) {
            if (!Arrays.equals(numbers(k - 1), numbers(k))) {
                result.add(k);
            }
        }
        return result;
    }

    int events() {
        return eventList().size();
    }

    int event(int event, int what) {
        List<Integer> list = eventList();
        index(event, list.size());
        what(what, 6);
        int k = list.get(event);
        int vanish = 0;
        int split = 0;
        for (int i = 0; i < phases.get(k - 1).firsts.size(); i++) {
            int n = children(k - 1, i).size();
            vanish += n == 0 ? 1 : 0;
            split += n >= 2 ? 1 : 0;
        }
        int[] a = numbers(k - 1);
        int[] b = numbers(k);
        return new int[] {k, a[0], b[0], a[1], b[1], vanish, split}[what];
    }

    int branches() {
        fresh();
        return branches.size();
    }

    int branch(int branch, int what) {
        fresh();
        index(branch, branches.size());
        what(what, 5);
        Branch b = branches.get(branch);
        return new int[] {b.first, b.last, b.component, b.parent, b.split.size(), b.longest()}[what];
    }

    int clearance(int x, int y, int otherX, int otherY) {
        cell(x, y);
        cell(otherX, otherY);
        fresh();
        int last = -1;
        for (int k = 0; k < phases.size(); k++) {
            int a = component(k, x, y);
            if (a >= 0 && a == component(k, otherX, otherY)) {
                last = k;
            }
        }
        return last;
    }

    int path(int phase, int x, int y, int otherX, int otherY) {
        fresh();
        index(phase, phases.size());
        cell(x, y);
        cell(otherX, otherY);
        Phase p = phases.get(phase);
        if (!p.in[4 * x][4 * y + 1]) {
            return -1;
        }
        int[][] steps = new int[48][48];
        for (int[] column : steps) {
            Arrays.fill(column, -1);
        }
        steps[4 * x][4 * y + 1] = 0;
        List<int[]> ring = List.of(new int[] {4 * x, 4 * y + 1});
        for (int n = 1; !ring.isEmpty(); n++) {
            List<int[]> next = new ArrayList<>();
            for (int[] c : ring) {
                for (int d = 0; d < 4; d++) {
                    int nx = c[0] + DX[d];
                    int ny = c[1] + DY[d];
                    if (has(p, nx, ny) && steps[nx][ny] < 0) {
                        steps[nx][ny] = n;
                        next.add(new int[] {nx, ny});
                    }
                }
            }
            ring = next;
        }
        return steps[4 * otherX][4 * otherY + 1];
    }
}
