/** For each promise of the document: ordinary calls, the edges that it names, and wrong inputs. */
public final class PromiseTest {
    private static RectilinearRoof r;

    public static void main(String[] args) {
        examples();
        newObject();
        rectangle();
        clear();
        append();
        execute();
        errorPosition();
        undoAndRedo();
        saveAndRestore();
        contains();
        edges();
        cornersAndGroups();
        symmetries();
        height();
        face();
        areaAndVolume();
        phases();
        phase();
        contours();
        origin();
        component();
        events();
        branches();
        clearanceAndPath();
        count();
        orderOfExceptions();
        Check.finish("PromiseTest");
    }

    private static void fresh() {
        r = new RectilinearRoof();
    }

    private static void is(String what, long got, long due) {
        Check.same(what, got, due);
    }

    private static void ell() {
        fresh();
        r.rectangle(0, 2, 2, 6, 3);
        r.rectangle(0, 2, 2, 2, 8);
    }

    /** Two rooms of 3 by 3 with a corridor of width 1 between them. */
    private static void rooms() {
        fresh();
        r.rectangle(0, 0, 0, 3, 3);
        r.rectangle(0, 5, 0, 3, 3);
        r.rectangle(0, 3, 1, 2, 1);
    }

    private static void ring() {
        fresh();
        r.rectangle(0, 1, 1, 5, 5);
        r.rectangle(1, 3, 3, 1, 1);
    }

    private static void text(String text) {
        for (int i = 0; i < text.length(); i++) {
            r.append(text.charAt(i));
        }
    }

    private static void examples() {
        fresh();
        is("example 1 rectangle", r.rectangle(0, 2, 2, 1, 1), 1);
        is("example 1 edges", r.edges(), 4);
        is("example 1 volume", r.volume(), 8);
        is("example 1 phases", r.phases(), 1);
        is("example 1 height", r.height(20, 20), 4);
        fresh();
        is("example 2 rectangle", r.rectangle(0, 0, 0, 4, 2), 8);
        is("example 2 face", r.face(1, 0), 0);
        is("example 2 face", r.face(0, 0), 3);
        is("example 2 area", r.area(1), 12);
        is("example 2 event", r.event(0, 0), 2);
        fresh();
        is("example 3 rectangle", r.rectangle(0, 0, 0, 3, 3), 9);
        is("example 3 rectangle", r.rectangle(0, 5, 0, 3, 3), 18);
        is("example 3 rectangle", r.rectangle(0, 3, 1, 2, 1), 20);
        is("example 3 phase", r.phase(0, 1), 1);
        is("example 3 phase", r.phase(1, 1), 2);
        is("example 3 branch", r.branch(0, 4), 2);
        fresh();
        is("example 4 rectangle", r.rectangle(0, 1, 1, 5, 5), 25);
        is("example 4 rectangle", r.rectangle(1, 3, 3, 1, 1), 24);
        is("example 4 phase", r.phase(0, 2), 2);
        is("example 4 contour", r.contour(0, 1, 1), 1);
        is("example 4 edges", r.edges(), 8);
        fresh();
        is("example 5 append", r.append(724577328), 4);
        is("example 5 append", r.append(741421868), 8);
        is("example 5 append", r.append(825950208), 10);
        Check.argument("example 5 execute", r::execute);
        is("example 5 errorPosition", r.errorPosition(), 5);
    }

    private static void newObject() {
        fresh();
        for (int what = 0; what < 4; what++) {
            is("new count", r.count(what), 0);
        }
        is("new phases", r.phases(), 0);
        is("new edges", r.edges(), 0);
        is("new corners", r.corners(), 0);
        is("new groups", r.groups(), 0);
        is("new events", r.events(), 0);
        is("new branches", r.branches(), 0);
        is("new volume", r.volume(), 0);
        is("new area", r.area(0), 0);
        is("new symmetries", r.symmetries(), 8);
        is("new errorPosition", r.errorPosition(), -1);
        is("new height", r.height(48, 48), 0);
        is("new face", r.face(5, 5), -1);
        is("new clearance", r.clearance(5, 5, 5, 5), -1);
        is("new contains", r.contains(5, 5) ? 1 : 0, 0);
        Check.index("new phase", () -> r.phase(0, 0));
        Check.index("new edge", () -> r.edge(0, 0));
        Check.index("new component", () -> r.component(0, 0, 0));
    }

    private static void rectangle() {
        fresh();
        is("add", r.rectangle(0, 1, 2, 3, 4), 12);
        is("add over", r.rectangle(0, 2, 3, 3, 4), 18);
        is("toggle", r.rectangle(2, 1, 2, 1, 5), 15);
        is("cell toggled off", r.contains(1, 2) ? 1 : 0, 0);
        is("cell toggled on", r.contains(1, 6) ? 1 : 0, 1);
        is("remove", r.rectangle(1, 0, 0, 12, 12), 0);
        is("whole grid", r.rectangle(0, 0, 0, 12, 12), 144);
        is("last cell", r.rectangle(1, 11, 11, 1, 1), 143);
        is("remove again", r.rectangle(1, 11, 11, 1, 1), 143);
        int[] strange = {-1, Integer.MIN_VALUE, Integer.MAX_VALUE};
        for (int s : strange) {
            Check.argument("operation", () -> r.rectangle(s, 0, 0, 1, 1));
            Check.index("x", () -> r.rectangle(0, s, 0, 1, 1));
            Check.index("y", () -> r.rectangle(0, 0, s, 1, 1));
            Check.index("width", () -> r.rectangle(0, 1, 0, s, 1));
            Check.index("height", () -> r.rectangle(0, 0, 1, 1, s));
        }
        Check.argument("operation 3", () -> r.rectangle(3, 0, 0, 1, 1));
        Check.index("x 12", () -> r.rectangle(0, 12, 0, 1, 1));
        Check.index("y 12", () -> r.rectangle(0, 0, 12, 1, 1));
        Check.index("width 0", () -> r.rectangle(0, 0, 0, 0, 1));
        Check.index("height 0", () -> r.rectangle(0, 0, 0, 1, 0));
        Check.index("width 12 - x + 1", () -> r.rectangle(0, 5, 0, 8, 1));
        Check.index("height 12 - y + 1", () -> r.rectangle(0, 0, 5, 1, 8));
        is("state after wrong calls", r.count(0), 143);
        is("changes after wrong calls", r.count(1), 7);
    }

    private static void clear() {
        fresh();
        is("clear of nothing", r.clear(), 0);
        is("it is a change", r.count(1), 1);
        r.rectangle(0, 0, 0, 5, 5);
        is("clear", r.clear(), 25);
        is("empty", r.count(0), 0);
        is("undo of clear", r.undo(), 2);
        is("back", r.count(0), 25);
    }

    private static void append() {
        fresh();
        is("no character", r.append(0), 0);
        is("skipped zeros", r.append(0x21007e00), 2);
        is("one", r.append(0x2b), 3);
        Check.argument("32", () -> r.append(0x2b2b2b20));
        Check.argument("127", () -> r.append(0x7f2b2b2b));
        Check.argument("128", () -> r.append(0x80000000));
        Check.argument("255", () -> r.append(-1));
        Check.argument("1", () -> r.append(1));
        is("unchanged", r.count(3), 3);
        for (int i = 0; i < 14; i++) {
            r.append(0x2b2b2b2b);
        }
        is("59", r.count(3), 59);
        Check.state("61", () -> r.append(0x2b2b));
        Check.argument("wrong and too long", () -> r.append(0x2b2b2b01));
        is("60", r.append(0x2b), 60);
        is("full, nothing more", r.append(0), 60);
        Check.state("full", () -> r.append(0x2b));
        is("no change", r.count(1), 0);
    }

    private static void execute() {
        fresh();
        text("+0,0,2,1;");
        is("one command", r.execute(), 1);
        is("cells", r.count(0), 2);
        is("emptied", r.count(3), 0);
        text("r;");
        is("turn", r.execute(), 1);
        is("(0, 0) to (11, 0)", r.contains(11, 0) ? 1 : 0, 1);
        is("(1, 0) to (11, 1)", r.contains(11, 1) ? 1 : 0, 1);
        is("cells", r.count(0), 2);
        text("m;");
        is("mirror", r.execute(), 1);
        is("(11, 1) to (0, 1)", r.contains(0, 1) ? 1 : 0, 1);
        is("(11, 0) to (0, 0)", r.contains(0, 0) ? 1 : 0, 1);
        text("^0,0,1,3;-0,2,1,1;+11,11,1,1;m;");
        is("several", r.execute(), 4);
        is("none left", r.count(0), 1);
        is("mirrored", r.contains(0, 11) ? 1 : 0, 1);
        is("four changes", r.count(1), 4);
        text("+0,0,12,12;r");
        Check.argument("too short", r::execute);
        is("not executed", r.count(0), 1);
        is("emptied", r.count(3), 0);
        is("no change", r.count(1), 4);
        r.undo();
        Check.argument("empty text", r::execute);
        is("redo stays", r.count(2), 1);
        text("+0,0,12,12;^10,10,2,2;");
        is("two", r.execute(), 2);
        is("140", r.count(0), 140);
        is("redo gone", r.count(2), 0);
        StringBuilder thirty = new StringBuilder();
        for (int i = 0; i < 30; i++) {
            thirty.append("m;");
        }
        text(thirty.toString());
        is("thirty", r.execute(), 30);
    }

    private static void error(String text, int position) {
        fresh();
        text(text);
        if (position < 0) {
            Check.same("execute " + text, Check.outcome(() -> r.execute() > 0 ? 1 : 0), "1");
        } else {
            Check.argument("execute " + text, r::execute);
        }
        is("errorPosition of " + text, r.errorPosition(), position);
    }

    private static void errorPosition() {
        error("", 0);
        error("x", 0);
        error("+", 1);
        error("r", 1);
        error("r;m;", -1);
        error("r;x", 2);
        error("r;;", 2);
        error("rr", 1);
        error("R;", 0);
        error("+,", 1);
        error("+0", 2);
        error("+00,", 2);
        error("+01,", 2);
        error("+11,", 4);
        error("+12", 1);
        error("+12,", 1);
        error("+123", 1);
        error("+112", 3);
        error("+99", 1);
        error("+0,12", 3);
        error("+0,0,0", 5);
        error("+0,0,13", 5);
        error("+0,0,120", 7);
        error("+0,0,12,13;", 8);
        error("+0,0,12,12", 10);
        error("+0,0,12,12;", -1);
        error("+11,11,1,1;", -1);
        error("+11,11,2,1;", 7);
        error("+11,11,1,2;", 9);
        error("+11,11,1,0;", 9);
        error("+1,1,2", 6);
        error("+1,1,2;", 6);
        error("+1,1,2,3,", 8);
        error("+1;1,2,3;", 2);
        error("+0,0,1,1;+0,0,1,12;-0,0,1,99;", 26);
        error("-5,5,7,7;", -1);
        error("^5,5,8,7;", 5);
        error("+-1,", 1);
        fresh();
        text("x");
        Check.argument("wrong", r::execute);
        text("r;");
        is("not yet read", r.errorPosition(), 0);
        r.execute();
        is("no error any more", r.errorPosition(), -1);
    }

    private static void undoAndRedo() {
        fresh();
        Check.state("nothing to undo", r::undo);
        Check.state("nothing to redo", r::redo);
        for (int i = 0; i < 10; i++) {
            r.rectangle(0, i, 0, 1, 1);
        }
        is("eight", r.count(1), 8);
        for (int i = 7; i >= 0; i--) {
            is("undo", r.undo(), i);
            is("cells", r.count(0), i + 2);
        }
        Check.state("no ninth", r::undo);
        is("two are left", r.count(0), 2);
        for (int i = 7; i >= 5; i--) {
            is("redo", r.redo(), i);
            is("cells", r.count(0), 10 - i);
        }
        is("undoable", r.count(1), 3);
        is("edges follow", r.edges(), 4);
        is("high follows", r.edge(0, 3), 5);
        r.undo();
        is("high follows undo", r.edge(0, 3), 4);
        r.redo();
        is("high follows redo", r.edge(0, 3), 5);
        r.rectangle(0, 0, 0, 1, 1);
        Check.state("a change ends redo", r::redo);
        is("undo of no difference", r.undo(), 3);
        is("still five", r.count(0), 5);
        is("redo", r.redo(), 0);
        is("changes", r.count(1), 4);
    }

    private static void saveAndRestore() {
        fresh();
        Check.state("nothing saved", r::restore);
        is("not a change", r.count(1), 0);
        is("save of nothing", r.save(), 0);
        r.rectangle(0, 0, 0, 2, 2);
        is("restore of nothing", r.restore(), 0);
        is("changes", r.count(1), 2);
        r.undo();
        is("save", r.save(), 4);
        is("save leaves redo", r.count(2), 1);
        r.undo();
        is("undo leaves saved", r.restore(), 4);
        is("restore ends redo", r.count(2), 0);
        r.clear();
        is("saved still", r.restore(), 4);
        r.rectangle(0, 0, 0, 3, 3);
        is("saved as it was", r.restore(), 4);
        is("in place", r.contains(1, 1) ? 1 : 0, 1);
        is("not more", r.contains(2, 1) ? 1 : 0, 0);
    }

    private static void contains() {
        fresh();
        r.rectangle(0, 11, 0, 1, 2);
        is("in", r.contains(11, 1) ? 1 : 0, 1);
        is("out", r.contains(1, 11) ? 1 : 0, 0);
        Check.index("x -1", () -> r.contains(-1, 0) ? 1 : 0);
        Check.index("x 12", () -> r.contains(12, 0) ? 1 : 0);
        Check.index("y -1", () -> r.contains(0, -1) ? 1 : 0);
        Check.index("y 12", () -> r.contains(0, 12) ? 1 : 0);
    }

    private static void row(String name, int[] got, int... due) {
        for (int i = 0; i < due.length; i++) {
            is(name + " " + i, got[i], due[i]);
        }
    }

    private static int[] edge(int edge) {
        int[] all = new int[7];
        for (int i = 0; i < 7; i++) {
            all[i] = r.edge(edge, i);
        }
        return all;
    }

    private static void edges() {
        ell();
        is("edges of an L", r.edges(), 6);
        row("edge 0", edge(0), 0, 2, 2, 8, 0);
        row("edge 1", edge(1), 1, 8, 2, 5, 0);
        row("edge 2", edge(2), 2, 5, 4, 8, 0);
        row("edge 3", edge(3), 1, 4, 5, 10, 0);
        row("edge 4", edge(4), 2, 10, 2, 4, 0);
        row("edge 5", edge(5), 3, 2, 2, 10, 0);
        int cells = 0;
        for (int i = 0; i < 6; i++) {
            cells += r.edge(i, 5);
        }
        is("every cell has a face", cells, 28);
        ring();
        row("edge of the hole", edge(4), 1, 3, 3, 4, 1);
        row("top of the hole", edge(5), 0, 4, 3, 4, 1);
        row("right of the hole", edge(6), 3, 4, 3, 4, 1);
        row("bottom of the hole", edge(7), 2, 3, 3, 4, 1);
        is("all vanish at the end", r.edge(4, 6), r.phases());
        fresh();
        r.rectangle(0, 0, 0, 1, 1);
        r.rectangle(0, 1, 1, 1, 1);
        is("cells that touch by a corner", r.edges(), 8);
        row("second one", edge(4), 0, 1, 1, 2, 1, 0, 1);
        is("its west has the cell", r.edge(7, 5), 1);
        rooms();
        is("edges of rooms", r.edges(), 12);
        is("corridor is extinct first", r.edge(2, 6), 1);
        is("the wall beside it lasts", r.edge(3, 6), 3);
        is("the bottom lasts", r.edge(0, 6), 3);
        Check.index("edge -1", () -> r.edge(-1, 0));
        Check.index("edge 12", () -> r.edge(12, 0));
        Check.argument("what -1", () -> r.edge(0, -1));
        Check.argument("what 7", () -> r.edge(0, 7));
    }

    private static void cornersAndGroups() {
        fresh();
        r.rectangle(0, 0, 0, 1, 1);
        r.rectangle(0, 1, 1, 1, 1);
        is("a shared corner counts once", r.corners(), 7);
        is("groups of two cells", r.groups(), 8);
        rooms();
        is("corners of rooms", r.corners(), 12);
        is("groups of rooms", r.groups(), 8);
        is("direction", r.group(0, 0), 0);
        is("line", r.group(0, 1), 0);
        is("two edges at the bottom", r.group(0, 2), 2);
        is("of length 6", r.group(0, 3), 6);
        is("second group", r.group(1, 0), 1);
        is("its line", r.group(1, 1), 3);
        is("two parts of the wall", r.group(1, 2), 2);
        is("of length 2", r.group(1, 3), 2);
        is("the corridor's floor", r.group(2, 1), 1);
        is("alone", r.group(2, 2), 1);
        is("of length 2", r.group(2, 3), 2);
        Check.index("group -1", () -> r.group(-1, 0));
        Check.index("group 8", () -> r.group(8, 0));
        Check.argument("what -1", () -> r.group(0, -1));
        Check.argument("what 4", () -> r.group(0, 4));
    }

    private static void symmetries() {
        fresh();
        r.rectangle(0, 7, 3, 1, 1);
        is("a square", r.symmetries(), 8);
        r.rectangle(0, 7, 3, 3, 1);
        is("a bar", r.symmetries(), 4);
        r.rectangle(0, 7, 3, 1, 3);
        is("an even L", r.symmetries(), 2);
        r.rectangle(0, 7, 3, 1, 4);
        is("an odd L", r.symmetries(), 1);
        fresh();
        r.rectangle(0, 0, 0, 2, 1);
        r.rectangle(0, 1, 1, 2, 1);
        is("a Z", r.symmetries(), 2);
        fresh();
        r.rectangle(0, 4, 4, 3, 3);
        r.rectangle(0, 4, 3, 1, 1);
        r.rectangle(0, 7, 4, 1, 1);
        r.rectangle(0, 6, 7, 1, 1);
        r.rectangle(0, 3, 6, 1, 1);
        is("a pinwheel", r.symmetries(), 4);
    }

    private static void height() {
        ell();
        is("outside", r.height(0, 0), 0);
        is("on an edge", r.height(16, 40), 0);
        is("on a corner", r.height(32, 40), 0);
        is("on a common side", r.height(24, 24), 8);
        is("between", r.height(17, 40), 1);
        is("in the corner of the L", r.height(28, 28), 12);
        fresh();
        r.rectangle(0, 0, 0, 12, 12);
        is("the middle", r.height(48, 48), 48);
        is("rim of the grid", r.height(0, 48), 0);
        is("far rim of the grid", r.height(96, 96), 0);
        is("near the rim", r.height(95, 48), 1);
        fresh();
        r.rectangle(0, 0, 0, 1, 1);
        r.rectangle(0, 1, 1, 1, 1);
        is("where cells touch by a corner", r.height(8, 8), 0);
        Check.index("x -1", () -> r.height(-1, 0));
        Check.index("x 97", () -> r.height(97, 0));
        Check.index("y -1", () -> r.height(0, -1));
        Check.index("y 97", () -> r.height(0, 97));
    }

    private static void face() {
        ell();
        is("bottom", r.face(5, 2), 0);
        is("left", r.face(2, 9), 5);
        is("right", r.face(3, 8), 3);
        is("outside", r.face(6, 6), -1);
        fresh();
        r.rectangle(0, 0, 0, 5, 1);
        r.rectangle(1, 2, 0, 1, 1);
        is("its own edge", r.face(3, 0), 7);
        is("left cell", r.face(0, 0), 3);
        is("cells of the face", r.edge(7, 5), 1);
        fresh();
        r.rectangle(0, 0, 1, 9, 5);
        r.rectangle(0, 4, 0, 1, 1);
        is("edges 2 and 6: the lowest", r.face(4, 2), 2);
        is("edge 6 alone", r.face(1, 1), 6);
        Check.index("x -1", () -> r.face(-1, 0));
        Check.index("x 12", () -> r.face(12, 0));
        Check.index("y -1", () -> r.face(0, -1));
        Check.index("y 12", () -> r.face(0, 12));
    }

    private static void areaAndVolume() {
        fresh();
        r.rectangle(0, 0, 0, 12, 12);
        is("whole", r.area(0), 576);
        is("offset by 1/2", r.area(1), 484);
        is("offset by 11/2", r.area(11), 4);
        is("offset by 6", r.area(12), 0);
        is("offset by 12", r.area(24), 0);
        is("a pyramid", r.volume(), 48 * 144 * 6 / 3);
        Check.argument("-1", () -> r.area(-1));
        Check.argument("25", () -> r.area(25));
        ring();
        is("ring", r.area(0), 96);
        is("ring by 1/2", r.area(1), 48);
        is("ring by 1", r.area(2), 0);
        is("ring's volume, of the area 24 - 24 * t", r.volume(), 48 * 12);
        fresh();
        r.rectangle(0, 1, 1, 9, 9);
        r.rectangle(1, 4, 4, 3, 3);
        is("wide ring's volume", r.volume(), 2592);
    }

    private static void phases() {
        fresh();
        r.rectangle(0, 0, 0, 12, 12);
        is("twelve", r.phases(), 12);
        r.rectangle(1, 6, 6, 1, 1);
        is("six", r.phases(), 6);
        fresh();
        r.rectangle(0, 0, 0, 12, 1);
        is("one", r.phases(), 1);
        r.rectangle(0, 0, 0, 12, 2);
        is("two", r.phases(), 2);
        r.undo();
        is("one again", r.phases(), 1);
    }

    private static void phase() {
        ring();
        row("phase 0", phaseRow(0), 18 * 18 - 36, 1, 2, 1, 8, 4, 96, 0);
        row("phase 1", phaseRow(1), 14 * 14 - 100, 1, 2, 1, 8, 4, 96, 0);
        rooms();
        row("rooms 0", phaseRow(0), 100 + 100 + 2 * 10, 1, 1, 0, 12, 8, 40 + 40 - 4 + 20, 0);
        row("rooms 1", phaseRow(1), 72, 2, 2, 0, 8, 8, 48, 2);
        row("rooms 2", phaseRow(2), 8, 2, 2, 0, 8, 8, 16, 2);
        Check.index("phase -1", () -> r.phase(-1, 0));
        Check.index("phase 3", () -> r.phase(3, 0));
        Check.argument("what -1", () -> r.phase(0, -1));
        Check.argument("what 8", () -> r.phase(0, 8));
    }

    private static int[] phaseRow(int phase) {
        int[] all = new int[8];
        for (int i = 0; i < 8; i++) {
            all[i] = r.phase(phase, i);
        }
        return all;
    }

    private static void vertices(String name, int phase, int contour, int... due) {
        is(name + " size", r.contour(phase, contour, 0), due.length / 2);
        for (int i = 0; i < due.length; i++) {
            is(name + " " + i, r.vertex(phase, contour, i / 2, i % 2), due[i]);
        }
    }

    private static void contours() {
        ell();
        vertices("L", 0, 0, 9, 9, 31, 9, 31, 19, 15, 19, 15, 39, 9, 39);
        is("length", r.contour(0, 0, 3), 2 * (22 + 30));
        ring();
        vertices("outer", 0, 0, 5, 5, 23, 5, 23, 23, 5, 23);
        vertices("hole, clockwise", 0, 1, 11, 11, 11, 17, 17, 17, 17, 11);
        is("outer is none", r.contour(0, 0, 1), 0);
        is("hole is one", r.contour(0, 1, 1), 1);
        is("hole's length", r.contour(0, 1, 3), 24);
        is("hole's component", r.contour(0, 1, 2), 0);
        fresh();
        r.rectangle(0, 0, 0, 6, 6);
        r.rectangle(1, 1, 1, 4, 4);
        r.rectangle(0, 2, 2, 2, 2);
        is("three contours", r.phase(0, 2), 3);
        is("ring's hole", r.contour(0, 1, 2), 0);
        is("island", r.contour(0, 2, 2), 1);
        is("island is no hole", r.contour(0, 2, 1), 0);
        vertices("island", 0, 2, 9, 9, 15, 9, 15, 15, 9, 15);
        fresh();
        r.rectangle(0, 0, 0, 5, 5);
        r.rectangle(1, 1, 1, 1, 1);
        r.rectangle(1, 2, 2, 1, 1);
        vertices("hole of two cells", 0, 1, 3, 3, 3, 9, 7, 9, 7, 13, 13, 13, 13, 7, 9, 7, 9, 3);
        Check.index("phase", () -> r.contour(9, 0, 0));
        Check.index("contour -1", () -> r.contour(0, -1, 0));
        Check.index("contour 2", () -> r.contour(0, 2, 0));
        Check.argument("what -1", () -> r.contour(0, 0, -1));
        Check.argument("what 4", () -> r.contour(0, 0, 4));
        Check.index("phase", () -> r.vertex(-1, 0, 0, 0));
        Check.index("contour", () -> r.vertex(0, 2, 0, 0));
        Check.index("vertex -1", () -> r.vertex(0, 0, -1, 0));
        Check.index("vertex 4", () -> r.vertex(0, 0, 4, 0));
        Check.argument("axis -1", () -> r.vertex(0, 0, 0, -1));
        Check.argument("axis 2", () -> r.vertex(0, 0, 0, 2));
    }

    private static void origin() {
        fresh();
        r.rectangle(0, 0, 0, 9, 5);
        r.rectangle(1, 4, 0, 1, 1);
        is("notch of the floor", r.edges(), 8);
        is("one edge in phase 0", r.origin(0, 0, 0, 0), 1);
        is("the first", r.origin(0, 0, 0, 1), 0);
        is("last", r.origin(0, 0, 7, 2), 7);
        is("none merged", r.phase(2, 7), 0);
        fresh();
        r.rectangle(0, 2, 0, 8, 6);
        r.rectangle(0, 2, 6, 2, 1);
        r.rectangle(0, 8, 6, 2, 1);
        is("two towers", r.edges(), 8);
        is("towers' tops in phase 1", r.origin(1, 0, 2, 0), 1);
        rooms();
        is("merged floor", r.origin(1, 0, 1, 0), 2);
        is("lowest", r.origin(1, 0, 1, 1), 1);
        is("highest", r.origin(1, 0, 1, 2), 9);
        is("not merged", r.origin(1, 0, 3, 0), 1);
        Check.index("phase", () -> r.origin(3, 0, 0, 0));
        Check.index("contour", () -> r.origin(0, 1, 0, 0));
        Check.index("side -1", () -> r.origin(0, 0, -1, 0));
        Check.index("side 12", () -> r.origin(0, 0, 12, 0));
        Check.argument("what -1", () -> r.origin(0, 0, 0, -1));
        Check.argument("what 3", () -> r.origin(0, 0, 0, 3));
    }

    private static void component() {
        rooms();
        is("one", r.component(0, 6, 1), 0);
        is("left", r.component(1, 1, 1), 0);
        is("right", r.component(1, 6, 1), 1);
        is("corridor closed", r.component(1, 4, 1), -1);
        is("outside", r.component(0, 11, 11), -1);
        is("the sample's quarter cell is at the cell's west", r.component(0, 0, 1), -1);
        is("and the second from the south", r.component(0, 1, 0), 0);
        fresh();
        r.rectangle(0, 8, 0, 2, 2);
        r.rectangle(0, 0, 3, 2, 2);
        r.rectangle(0, 5, 3, 2, 2);
        is("by y first", r.component(0, 9, 1), 0);
        is("then by x", r.component(0, 1, 4), 1);
        is("last", r.component(0, 6, 4), 2);
        Check.index("phase -1", () -> r.component(-1, 0, 0));
        Check.index("phase 2", () -> r.component(2, 0, 0));
        Check.index("x", () -> r.component(0, 12, 0));
        Check.index("y", () -> r.component(0, 0, -1));
    }

    private static int[] event(int event) {
        int[] all = new int[7];
        for (int i = 0; i < 7; i++) {
            all[i] = r.event(event, i);
        }
        return all;
    }

    private static void events() {
        rooms();
        is("rooms' events", r.events(), 2);
        row("split", event(0), 1, 12, 8, 1, 2, 0, 1);
        row("end", event(1), 3, 8, 0, 2, 0, 2, 0);
        ell();
        is("L's events", r.events(), 2);
        row("arm vanishes", event(0), 2, 6, 4, 1, 1, 0, 0);
        row("end", event(1), 3, 4, 0, 1, 0, 1, 0);
        ring();
        is("ring's events", r.events(), 1);
        row("ring ends", event(0), 2, 8, 0, 1, 0, 1, 0);
        Check.index("event -1", () -> r.event(-1, 0));
        Check.index("event 1", () -> r.event(1, 0));
        Check.argument("what -1", () -> r.event(0, -1));
        Check.argument("what 7", () -> r.event(0, 7));
        fresh();
        r.rectangle(0, 0, 0, 12, 9);
        r.rectangle(1, 4, 1, 1, 1);
        r.rectangle(1, 8, 1, 1, 1);
        is("holes open to the floor", r.event(0, 0), 1);
        is("then there are none", r.phase(1, 3), 0);
        is("but two before", r.phase(0, 3), 2);
    }

    private static int[] branch(int branch) {
        int[] all = new int[6];
        for (int i = 0; i < 6; i++) {
            all[i] = r.branch(branch, i);
        }
        return all;
    }

    private static void branches() {
        rooms();
        is("rooms' branches", r.branches(), 3);
        row("trunk", branch(0), 0, 0, 0, -1, 2, 2);
        row("left", branch(1), 1, 2, 0, 0, 0, 1);
        row("right", branch(2), 1, 2, 1, 0, 0, 1);
        fresh();
        // a high room and, by corridors of width 1 and 2, two lower ones; and a room alone
        r.rectangle(0, 0, 0, 3, 3);
        r.rectangle(0, 3, 1, 1, 1);
        r.rectangle(0, 4, 0, 4, 4);
        r.rectangle(0, 8, 1, 1, 2);
        r.rectangle(0, 9, 0, 3, 4);
        r.rectangle(0, 0, 5, 2, 2);
        is("six branches", r.branches(), 6);
        row("trunk", branch(0), 0, 0, 0, -1, 2, 3);
        row("lowest room", branch(1), 1, 2, 0, 0, 0, 1);
        row("the two others", branch(2), 1, 1, 1, 0, 2, 2);
        row("one of them", branch(3), 2, 3, 1, 2, 0, 1);
        row("the other", branch(4), 2, 2, 2, 2, 0, 1);
        row("the room alone", branch(5), 0, 1, 1, -1, 0, 1);
        Check.index("branch -1", () -> r.branch(-1, 0));
        Check.index("branch 6", () -> r.branch(6, 0));
        Check.argument("what -1", () -> r.branch(0, -1));
        Check.argument("what 6", () -> r.branch(0, 6));
    }

    private static void clearanceAndPath() {
        rooms();
        is("through the corridor", r.clearance(1, 1, 6, 1), 0);
        is("in a room", r.clearance(1, 1, 1, 1), 1);
        is("at the wall", r.clearance(0, 1, 0, 1), -1);
        is("outside", r.clearance(11, 11, 1, 1), -1);
        is("way", r.path(0, 1, 1, 6, 1), 20);
        is("back", r.path(0, 6, 1, 1, 1), 20);
        is("no way", r.path(1, 1, 1, 6, 1), -1);
        is("no step", r.path(1, 1, 1, 1, 1), 0);
        is("from outside", r.path(0, 0, 1, 1, 1), -1);
        is("to outside", r.path(0, 1, 1, 0, 1), -1);
        is("not in the phase at all", r.path(2, 1, 1, 1, 1), -1);
        fresh();
        r.rectangle(0, 0, 0, 5, 5);
        r.rectangle(1, 2, 1, 1, 4);
        is("round the wall", r.path(0, 1, 4, 4, 4), 12 + 2 * 15);
        is("down the wall", r.path(0, 1, 4, 1, 1), 12);
        Check.index("x", () -> r.clearance(-1, 0, 0, 0));
        Check.index("y", () -> r.clearance(0, 12, 0, 0));
        Check.index("other x", () -> r.clearance(0, 0, 12, 0));
        Check.index("other y", () -> r.clearance(0, 0, 0, -1));
        Check.index("phase -1", () -> r.path(-1, 0, 0, 0, 0));
        Check.index("phase 2", () -> r.path(2, 0, 0, 0, 0));
        Check.index("x", () -> r.path(0, 12, 0, 0, 0));
        Check.index("y", () -> r.path(0, 0, -1, 0, 0));
        Check.index("other x", () -> r.path(0, 0, 0, -1, 0));
        Check.index("other y", () -> r.path(0, 0, 0, 0, 12));
    }

    private static void count() {
        fresh();
        r.rectangle(0, 0, 0, 4, 3);
        r.rectangle(0, 0, 0, 5, 3);
        r.rectangle(0, 0, 0, 6, 3);
        r.undo();
        r.append(0x2b2b00);
        is("cells", r.count(0), 15);
        is("undoable", r.count(1), 2);
        is("redoable", r.count(2), 1);
        is("characters", r.count(3), 2);
        Check.argument("what -1", () -> r.count(-1));
        Check.argument("what 4", () -> r.count(4));
    }

    private static void orderOfExceptions() {
        rooms();
        Check.argument("operation before place", () -> r.rectangle(9, 99, 0, 0, 0));
        Check.index("edge before what", () -> r.edge(99, 99));
        Check.index("group before what", () -> r.group(99, 99));
        Check.index("phase before what", () -> r.phase(99, 99));
        Check.index("contour before what", () -> r.contour(0, 99, 99));
        Check.index("vertex before axis", () -> r.vertex(0, 0, 99, 99));
        Check.index("side before what", () -> r.origin(0, 0, 99, 99));
        Check.index("event before what", () -> r.event(99, 99));
        Check.index("branch before what", () -> r.branch(99, 99));
        is("nothing changed", r.count(1), 3);
    }
}
