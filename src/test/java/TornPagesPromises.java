/** For each promise of the document ordinary inputs, the edges that it names, and wrong inputs. */
public final class TornPagesPromises {
    private static final int INVALID = -1001;
    private static final int NOT_POSSIBLE = -1002;
    private static final int LIMIT = -1003;
    private static final int NOT_FOUND = -1004;

    private static int promise = 0;
    private static int wrong = 0;

    private static void due(String call, int got, int want) {
        if (got != want) {
            wrong++;
            System.out.println("promise " + promise + ": " + call + " answered " + got
                    + ", due is " + want);
        }
    }

    public static void main(String[] args) {
        newObject();
        reset();
        addScrap();
        add();
        removeScrap();
        scrap();
        edge();
        edgeOfBothKinds();
        undo();
        undoOfEachChange();
        count();
        lay();
        force();
        lift();
        turn();
        at();
        reason();
        ways();
        bestFor();
        fill();
        member();
        canFill();
        canFillOnLongPages();
        type();
        clearText();
        fault();
        errorsChangeNothing();
        System.out.println(wrong == 0 ? "all promises hold" : wrong + " answers are not as due");
        if (wrong != 0) {
            System.exit(1);
        }
    }

    private static int faultOf(String text) {
        TornPages x = new TornPages();
        Pages.write(x, text);
        return x.fault();
    }

    private static TornPages twelveScraps() {
        TornPages x = new TornPages();
        for (int scrap = 0; scrap < 12; scrap++) {
            x.addScrap(scrap, scrap, scrap, scrap, 0);
        }
        return x;
    }

    private static void dueCounts(TornPages x, int... wants) {
        for (int what = 0; what < wants.length; what++) {
            due("count(" + what + ")", x.count(what), wants[what]);
        }
    }

    private static void dueEdges(TornPages x, int scrap, int orientation, int what, int... wants) {
        for (int edge = 0; edge < 4; edge++) {
            due("edge(" + scrap + ", " + orientation + ", " + edge + ", " + what + ")",
                    x.edge(scrap, orientation, edge, what), wants[edge]);
        }
    }

    private static void newObject() {
        promise = 1;
        TornPages x = new TornPages();
        dueCounts(x, 0, 0, 4, 4, 0, 0, 0, 0, 0, 16, 0, 0);
        due("at(15)", x.at(15), NOT_FOUND);
        due("at(16)", x.at(16), INVALID);
        due("undo", x.undo(), NOT_POSSIBLE);
        due("INVALID_ARGUMENT", TornPages.INVALID_ARGUMENT, INVALID);
        due("NOT_POSSIBLE", TornPages.NOT_POSSIBLE, NOT_POSSIBLE);
        due("LIMIT_REACHED", TornPages.LIMIT_REACHED, LIMIT);
        due("NOT_FOUND", TornPages.NOT_FOUND, NOT_FOUND);
    }

    private static void reset() {
        promise = 2;
        int[][] refused = {{0, 4}, {4, 0}, {7, 4}, {4, 7}, {-1, 1}, {1, -1},
            {Integer.MAX_VALUE, 1}, {Integer.MIN_VALUE, 1}, {1, Integer.MIN_VALUE}};
        TornPages x = Pages.fourLaid();
        for (int[] size : refused) {
            due("reset(" + size[0] + ", " + size[1] + ")", x.reset(size[0], size[1]), INVALID);
        }
        dueCounts(x, 4, 4, 2, 2);
        x.lift(3);
        x.turn(0, 7);
        x.type('1');
        due("reset(6, 1)", x.reset(6, 1), 3);
        dueCounts(x, 4, 0, 6, 1, 0, 0, 0, 0, 0, 6, 5, 1);
        due("orientation beside the page", x.scrap(0, 1), 0);
        due("place beside the page", x.scrap(0, 2), NOT_FOUND);
        due("reset(1, 6)", x.reset(1, 6), 0);
        dueCounts(x, 4, 0, 1, 6);
        due("reset(6, 6)", x.reset(6, 6), 0);
        due("at(35)", x.at(35), NOT_FOUND);
        due("at(36)", x.at(36), INVALID);
        x.force(2, 35, 1);
        due("at(35) with a scrap", x.at(35), 2);
        x.reset(6, 6);
        due("at(35) after a reset", x.at(35), NOT_FOUND);
        due("reset(1, 1)", x.reset(1, 1), 0);
        due("at(1)", x.at(1), INVALID);
    }

    private static void addScrap() {
        promise = 3;
        TornPages x = new TornPages();
        due("a scrap", x.addScrap(-1, 0, 999, 12, 1), 0);
        dueEdges(x, 0, 0, 0, -1, 0, 999, 12);
        dueEdges(x, 0, 0, 1, 0, 0, 0, 0);
        due("kind", x.scrap(0, 0), 1);
        due("top too low", x.addScrap(-2, 0, 0, 0, 0), INVALID);
        due("top too high", x.addScrap(1000, 0, 0, 0, 0), INVALID);
        due("right too low", x.addScrap(0, -2, 0, 0, 0), INVALID);
        due("right too high", x.addScrap(0, 1000, 0, 0, 0), INVALID);
        due("bottom too low", x.addScrap(0, 0, -2, 0, 0), INVALID);
        due("bottom too high", x.addScrap(0, 0, 1000, 0, 0), INVALID);
        due("left too low", x.addScrap(0, 0, 0, -2, 0), INVALID);
        due("left too high", x.addScrap(0, 0, 0, 1000, 0), INVALID);
        due("kind too low", x.addScrap(0, 0, 0, 0, -1), INVALID);
        due("kind too high", x.addScrap(0, 0, 0, 0, 2), INVALID);
        due("all out", x.addScrap(1000, -2, 1000, -2, 2), INVALID);
        due("far out", x.addScrap(Integer.MIN_VALUE, 0, 0, 0, 0), INVALID);
        dueCounts(x, 1, 0);
        for (int scrap = 1; scrap < 12; scrap++) {
            due("scrap " + scrap, x.addScrap(-1, -1, -1, -1, 0), scrap);
        }
        due("a 13th", x.addScrap(-1, -1, -1, -1, 0), LIMIT);
        due("a wrong 13th", x.addScrap(-1, -1, -1, -1, 2), INVALID);
        dueCounts(x, 12, 0, 4, 4, 0, 0, 0, 0, 0, 16, 5, 0);
    }

    private static void add() {
        promise = 4;
        TornPages x = new TornPages();
        due("an empty text", x.add(), NOT_POSSIBLE);
        Pages.write(x, "012/3,-/0,345/0,999/1;1");
        due("a scrap", x.add(), 0);
        due("the text stays", x.count(11), 23);
        dueEdges(x, 0, 0, 0, 12, -1, 345, 999);
        dueEdges(x, 0, 0, 1, 3, 0, 0, 1);
        due("kind", x.scrap(0, 0), 1);
        due("it again", x.add(), 1);
        due("another", Pages.addText(x, "-/0,-/0,-/0,-/0;0"), 2);
        dueEdges(x, 2, 0, 0, -1, -1, -1, -1);
        dueEdges(x, 2, 0, 1, 0, 0, 0, 0);
        due("kind", x.scrap(2, 0), 0);
        x.type('0');
        due("a text that goes on", x.add(), NOT_POSSIBLE);
        due("a text that ends early", Pages.addText(x, "-/0,-/0,-/0,-/0;"), NOT_POSSIBLE);
        due("a wrong kind", Pages.addText(x, "-/0,-/0,-/0,-/0;2"), NOT_POSSIBLE);
        dueCounts(x, 3, 0, 4, 4, 0, 0, 0, 0, 0, 16, 3);
        for (int scrap = 3; scrap < 12; scrap++) {
            due("scrap " + scrap, Pages.addText(x, "001/9,-/0,-/0,-/0;0"), scrap);
        }
        due("a 13th", x.add(), LIMIT);
        x.type(' ');
        due("a wrong 13th", x.add(), NOT_POSSIBLE);
        due("scraps", x.count(0), 12);
    }

    private static void removeScrap() {
        promise = 5;
        TornPages x = Pages.fourLaid();
        due("removeScrap(-1)", x.removeScrap(-1), INVALID);
        due("removeScrap(4)", x.removeScrap(4), INVALID);
        due("removeScrap(MIN)", x.removeScrap(Integer.MIN_VALUE), INVALID);
        due("removeScrap(1)", x.removeScrap(1), 3);
        due("at(0)", x.at(0), 0);
        due("at(1)", x.at(1), NOT_FOUND);
        due("at(2)", x.at(2), 1);
        due("at(3)", x.at(3), 2);
        dueEdges(x, 1, 0, 0, 543, 234, -1, -1);
        dueEdges(x, 2, 0, 0, 210, -1, -1, 765);
        due("scrap(3, 0)", x.scrap(3, 0), INVALID);
        x.lift(0);
        due("one beside the page", x.removeScrap(0), 2);
        due("at(2)", x.at(2), 0);
        due("at(3)", x.at(3), 1);
        due("place of 1", x.scrap(1, 2), 3);
        due("the last one", x.removeScrap(1), 1);
        due("a new one lies beside", x.addScrap(1, 2, 3, 4, 1), 1);
        due("its place", x.scrap(1, 2), NOT_FOUND);
        due("its orientation", x.scrap(1, 1), 0);
        due("and again", x.removeScrap(0), 1);
        due("its kind", x.scrap(0, 0), 1);
        due("the only one", x.removeScrap(0), 0);
        due("none", x.removeScrap(0), INVALID);
        dueCounts(x, 0, 0, 2, 2, 0, 0, 0, 0, 0, 4);
        TornPages full = twelveScraps();
        full.force(11, 5, 7);
        due("of twelve", full.removeScrap(0), 11);
        due("kept place", full.scrap(10, 2), 5);
        due("kept orientation", full.scrap(10, 1), 7);
        due("renumbered", full.at(5), 10);
        dueEdges(full, 10, 0, 0, 11, 11, 11, 11);
        Pages.addText(full, "-/0,123/1,-/0,-/0;1");
        Pages.addText(full, "-/0,123/2,-/0,-/0;0");
        full.removeScrap(9);
        full.removeScrap(9);
        dueEdges(full, 9, 0, 1, 0, 1, 0, 0);
        due("its kind", full.scrap(9, 0), 1);
        full.addScrap(0, 0, 0, 0, 0);
        due("room for one", full.addScrap(0, 0, 0, 0, 0), 11);
        due("the new one's place", full.scrap(11, 2), NOT_FOUND);
        due("the new one's orientation", full.scrap(11, 1), 0);
    }

    private static void scrap() {
        promise = 6;
        TornPages x = Pages.fourLaid();
        for (int scrap = 0; scrap < 4; scrap++) {
            int[] wants = {0, 0, scrap, 0, 4, 0};
            for (int what = 0; what < 6; what++) {
                due("scrap(" + scrap + ", " + what + ")", x.scrap(scrap, what), wants[what]);
            }
        }
        x.turn(3, 6);
        due("orientation", x.scrap(3, 1), 6);
        due("its group", x.scrap(3, 3), 1);
        due("fits", x.scrap(3, 4), 1);
        due("misfits", x.scrap(3, 5), 3);
        due("fits of a neighbour", x.scrap(1, 4), 3);
        due("misfits of a neighbour", x.scrap(1, 5), 1);
        x.lift(0);
        due("fits without it", x.scrap(1, 4), 2);
        due("misfits without it", x.scrap(1, 5), 1);
        due("kind beside", x.scrap(0, 0), 0);
        due("orientation beside", x.scrap(0, 1), 0);
        for (int what = 2; what < 6; what++) {
            due("scrap(0, " + what + ") beside", x.scrap(0, what), NOT_FOUND);
        }
        due("scrap(0, 6)", x.scrap(0, 6), INVALID);
        due("scrap(0, -1)", x.scrap(0, -1), INVALID);
        due("scrap(4, 0)", x.scrap(4, 0), INVALID);
        due("scrap(-1, 0)", x.scrap(-1, 0), INVALID);
        due("groups", x.scrap(1, 3) * 100 + x.scrap(2, 3) * 10 + x.scrap(3, 3), 12);
    }

    private static void edge() {
        promise = 7;
        TornPages x = new TornPages();
        x.addScrap(12, 345, -1, 678, 0);
        dueEdges(x, 0, 0, 0, 12, 345, -1, 678);
        dueEdges(x, 0, 1, 0, 876, 12, 543, -1);
        dueEdges(x, 0, 2, 0, -1, 876, 210, 543);
        dueEdges(x, 0, 3, 0, 345, -1, 678, 210);
        dueEdges(x, 0, 4, 0, 210, 678, -1, 345);
        dueEdges(x, 0, 5, 0, 543, 210, 876, -1);
        dueEdges(x, 0, 6, 0, -1, 543, 12, 876);
        dueEdges(x, 0, 7, 0, 678, -1, 345, 12);
        due("edge(0, 8, 0, 0)", x.edge(0, 8, 0, 0), INVALID);
        due("edge(0, -1, 0, 0)", x.edge(0, -1, 0, 0), INVALID);
        due("edge(0, 0, 4, 0)", x.edge(0, 0, 4, 0), INVALID);
        due("edge(0, 0, -1, 0)", x.edge(0, 0, -1, 0), INVALID);
        due("edge(0, 0, 0, 2)", x.edge(0, 0, 0, 2), INVALID);
        due("edge(0, 0, 0, -1)", x.edge(0, 0, 0, -1), INVALID);
        due("edge(1, 0, 0, 0)", x.edge(1, 0, 0, 0), INVALID);
        due("edge(-1, 0, 0, 0)", x.edge(-1, 0, 0, 0), INVALID);
        due("edge(MAX, ..)", x.edge(Integer.MAX_VALUE, Integer.MIN_VALUE, 0, 0), INVALID);
        x.reset(1, 1);
        x.force(0, 0, 5);
        dueEdges(x, 0, 0, 0, 12, 345, -1, 678);
    }

    private static void edgeOfBothKinds() {
        TornPages x = new TornPages();
        Pages.addText(x, "012/1,345/2,-/0,678/4;0");
        Pages.addText(x, "012/1,345/2,-/0,678/4;1");
        for (int scrap = 0; scrap < 2; scrap++) {
            dueEdges(x, scrap, 0, 1, 1, 2, 0, 4);
            dueEdges(x, scrap, 1, 1, 4, 1, 2, 0);
            dueEdges(x, scrap, 2, 1, 0, 4, 1, 2);
            dueEdges(x, scrap, 3, 1, 2, 0, 4, 1);
        }
        for (int orientation = 4; orientation < 8; orientation++) {
            dueEdges(x, 0, orientation, 1, 0, 0, 0, 0);
        }
        dueEdges(x, 1, 4, 1, 1, 4, 0, 2);
        dueEdges(x, 1, 5, 1, 2, 1, 4, 0);
        dueEdges(x, 1, 6, 1, 0, 2, 1, 4);
        dueEdges(x, 1, 7, 1, 4, 0, 2, 1);
    }

    private static void undo() {
        promise = 8;
        TornPages x = Pages.fourScraps();
        for (int scrap = 0; scrap < 4; scrap++) {
            x.lay(scrap, scrap, 0);
        }
        x.type('7');
        due("states", x.count(10), 5);
        for (int left = 4; left >= 0; left--) {
            due("undo", x.undo(), left);
            due("states", x.count(10), left);
        }
        due("undo of an empty history", x.undo(), NOT_POSSIBLE);
        due("undo again", x.undo(), NOT_POSSIBLE);
        dueCounts(x, 4, 0, 4, 4, 0, 0, 0, 0, 0, 16, 0, 1);
        x.addScrap(1, 1, 1, 1, 1);
        due("undo of one", x.undo(), 0);
        due("scraps", x.count(0), 4);
        x.addScrap(1, 1, 1, 1, 1);
        x.removeScrap(4);
        x.addScrap(2, 2, 2, 2, 0);
        x.undo();
        due("undo of removeScrap", x.undo(), 1);
        due("its kind", x.scrap(4, 0), 1);
        dueEdges(x, 4, 0, 0, 1, 1, 1, 1);
    }

    private static void undoOfEachChange() {
        TornPages x = Pages.fourLaid();
        x.turn(3, 5);
        x.removeScrap(0);
        x.lift(1);
        x.force(1, 0, 3);
        x.fill();
        due("nothing to lay, but a change", x.undo(), 4);
        due("place before", x.scrap(1, 2), 0);
        x.undo();
        due("beside before", x.scrap(1, 2), NOT_FOUND);
        x.undo();
        due("on the page before", x.scrap(1, 2), 2);
        due("the turned one before", x.scrap(2, 1), 5);
        x.undo();
        due("scraps before", x.count(0), 4);
        dueEdges(x, 0, 0, 0, -1, 123, 456, -1);
        due("at(0) before", x.at(0), 0);
        x.undo();
        due("orientation before", x.scrap(3, 1), 0);
        TornPages y = new TornPages();
        y.addScrap(-1, -1, -1, -1, 0);
        y.reset(1, 1);
        due("fill", y.fill(), 1);
        due("undo of fill", y.undo(), 2);
        due("nothing lies", y.count(1), 0);
        due("undo of reset", y.undo(), 1);
        dueCounts(y, 1, 0, 4, 4);
        Pages.addText(y, "-/0,-/0,-/0,-/0;1");
        due("undo of add", y.undo(), 1);
        due("scraps", y.count(0), 1);
        due("the text stays", y.count(11), 17);
    }

    private static void count() {
        promise = 9;
        TornPages x = Pages.fourLaid();
        dueCounts(x, 4, 4, 2, 2, 1, 4, 4, 8, 0, 0, 5, 0);
        x.turn(3, 2);
        dueCounts(x, 4, 4, 2, 2, 2, 4, 2, 6, 2, 0, 5, 0);
        x.lift(1);
        dueCounts(x, 4, 3, 2, 2, 2, 2, 1, 4, 2, 1, 5, 0);
        x.lift(0);
        dueCounts(x, 4, 2, 2, 2, 2, 1, 0, 2, 2, 2, 5, 0);
        due("count(-1)", x.count(-1), INVALID);
        due("count(12)", x.count(12), INVALID);
        due("count(MAX)", x.count(Integer.MAX_VALUE), INVALID);
        x.type('a');
        x.type('b');
        due("the text", x.count(11), 2);
        x.reset(3, 5);
        dueCounts(x, 4, 0, 3, 5, 0, 0, 0, 0, 0, 15, 5, 2);
        x.force(0, 4, 0);
        dueCounts(x, 4, 1, 3, 5, 1, 0, 0, 0, 0, 14, 5, 2);
        TornPages y = new TornPages();
        y.addScrap(-1, -1, -1, -1, 0);
        y.reset(1, 1);
        y.lay(0, 0, 0);
        dueCounts(y, 1, 1, 1, 1, 1, 0, 0, 4, 0, 0, 3, 0);
    }

    private static void lay() {
        promise = 10;
        TornPages x = Pages.fourScraps();
        due("lay(0, 0, 0)", x.lay(0, 0, 0), 0);
        due("a place with a scrap", x.lay(1, 0, 0), NOT_POSSIBLE);
        due("one that lies", x.lay(0, 1, 0), NOT_POSSIBLE);
        due("one that lies, where it lies", x.lay(0, 0, 0), NOT_POSSIBLE);
        due("not at the border so", x.lay(1, 1, 1), NOT_POSSIBLE);
        due("not beside its neighbour so", x.lay(2, 1, 3), NOT_POSSIBLE);
        due("scrap -1", x.lay(-1, 1, 0), INVALID);
        due("scrap 4", x.lay(4, 1, 0), INVALID);
        due("place -1", x.lay(1, -1, 0), INVALID);
        due("place 4", x.lay(1, 4, 0), INVALID);
        due("orientation -1", x.lay(1, 1, -1), INVALID);
        due("orientation 8", x.lay(1, 1, 8), INVALID);
        due("a wrong place for one that lies", x.lay(0, 4, 0), INVALID);
        due("lay(3, 3, 0)", x.lay(3, 3, 0), 0);
        due("lay(1, 1, 0)", x.lay(1, 1, 0), 2);
        due("lay(2, 2, 0)", x.lay(2, 2, 0), 2);
        due("at(2)", x.at(2), 2);
        TornPages y = new TornPages();
        Pages.addText(y, "-/0,123/4,-/0,-/0;0");
        Pages.addText(y, "-/0,-/0,-/0,876/4;0");
        Pages.addText(y, "-/0,-/0,-/0,876/5;0");
        y.reset(2, 1);
        due("turned around", y.lay(0, 1, 2), 0);
        due("its partner, not turned", y.lay(1, 0, 0), NOT_POSSIBLE);
        due("another line", y.lay(2, 0, 2), NOT_POSSIBLE);
        due("its back", y.lay(1, 0, 4), NOT_POSSIBLE);
        due("its partner", y.lay(1, 0, 2), 1);
        due("orientation", y.scrap(1, 1), 2);
    }

    private static void force() {
        promise = 11;
        TornPages x = Pages.fourScraps();
        due("one that fits", x.force(0, 0, 0), 0);
        due("one that lies", x.force(0, 1, 0), NOT_POSSIBLE);
        due("a place with a scrap", x.force(1, 0, 0), NOT_POSSIBLE);
        due("scrap 4", x.force(4, 1, 0), INVALID);
        due("scrap -1", x.force(-1, 1, 0), INVALID);
        due("place 4", x.force(1, 4, 0), INVALID);
        due("place -1", x.force(1, -1, 0), INVALID);
        due("orientation 8", x.force(1, 1, 8), INVALID);
        due("orientation -1", x.force(1, 1, -1), INVALID);
        due("a wrong orientation of one that lies", x.force(0, 0, 8), INVALID);
        due("one with three faults", x.force(1, 1, 2), 3);
        due("orientation", x.scrap(1, 1), 2);
        due("one with two faults", x.force(2, 3, 0), 2);
        due("lying", x.count(1), 3);
        x.reset(3, 3);
        due("the middle of an empty page", x.force(3, 4, 7), 0);
    }

    private static void lift() {
        promise = 12;
        TornPages x = Pages.fourLaid();
        due("lift(4)", x.lift(4), INVALID);
        due("lift(-1)", x.lift(-1), INVALID);
        due("lift(2)", x.lift(2), 2);
        due("lift(2) again", x.lift(2), NOT_POSSIBLE);
        due("at(2)", x.at(2), NOT_FOUND);
        due("orientation", x.scrap(2, 1), 0);
        x.force(2, 2, 7);
        due("from a fault", x.lift(2), 2);
        due("orientation", x.scrap(2, 1), 0);
        due("laid again", x.lay(2, 2, 0), 2);
        due("lift(0)", x.lift(0), 0);
    }

    private static void turn() {
        promise = 13;
        TornPages x = Pages.fourLaid();
        due("to a fault", x.turn(0, 1), 3);
        due("orientation", x.scrap(0, 1), 1);
        due("its place", x.scrap(0, 2), 0);
        due("at(0)", x.at(0), 0);
        due("all wrong", x.turn(0, 2), 4);
        due("back", x.turn(0, 0), 0);
        due("the same again", x.turn(0, 0), 0);
        due("states", x.count(10), 5);
        x.undo();
        due("each turn is a change", x.scrap(0, 1), 0);
        x.undo();
        due("the one before", x.scrap(0, 1), 2);
        due("turn(4, 0)", x.turn(4, 0), INVALID);
        due("turn(-1, 0)", x.turn(-1, 0), INVALID);
        due("turn(0, 8)", x.turn(0, 8), INVALID);
        due("turn(0, -1)", x.turn(0, -1), INVALID);
        x.lift(0);
        due("beside the page", x.turn(0, 3), NOT_POSSIBLE);
        due("beside the page, wrong", x.turn(0, 8), INVALID);
        due("orientation", x.scrap(0, 1), 0);
    }

    private static void at() {
        promise = 14;
        TornPages x = Pages.fourScraps();
        x.reset(3, 2);
        x.force(2, 4, 1);
        due("at(4)", x.at(4), 2);
        for (int place = 0; place < 6; place++) {
            due("at(" + place + ")", x.at(place), place == 4 ? 2 : NOT_FOUND);
        }
        due("at(6)", x.at(6), INVALID);
        due("at(-1)", x.at(-1), INVALID);
        due("at(MIN)", x.at(Integer.MIN_VALUE), INVALID);
    }

    private static void reason() {
        promise = 15;
        TornPages x = new TornPages();
        Pages.addText(x, "-/0,123/4,456/5,-/0;0");
        Pages.addText(x, "-/0,-/0,-/0,876/4;0");
        Pages.addText(x, "-/0,-/0,-/0,876/5;0");
        Pages.addText(x, "-/0,-/0,-/0,875/4;0");
        Pages.addText(x, "543/1,321/0,-/0,-/0;0");
        x.reset(2, 2);
        x.force(0, 0, 0);
        due("nothing right of it", x.reason(0, 1), NOT_FOUND);
        due("an empty place", x.reason(1, 0), NOT_FOUND);
        due("border top", x.reason(0, 0), 0);
        due("border left", x.reason(0, 3), 0);
        x.force(1, 1, 0);
        due("fits", x.reason(0, 1), 0);
        due("fits from there", x.reason(1, 3), 0);
        x.lift(1);
        x.force(2, 1, 0);
        due("lines", x.reason(0, 1), 3);
        due("lines from there", x.reason(1, 3), 3);
        x.lift(2);
        x.force(3, 1, 0);
        due("profiles", x.reason(0, 1), 2);
        due("profiles from there", x.reason(1, 3), 2);
        x.turn(3, 2);
        due("straight", x.reason(0, 1), 1);
        due("straight from there", x.reason(1, 3), 1);
        due("border right", x.reason(1, 1), 4);
        due("border top of it", x.reason(1, 0), 0);
        x.force(4, 2, 0);
        due("lines below", x.reason(0, 2), 3);
        due("lines above", x.reason(2, 0), 3);
        due("nothing right of that", x.reason(2, 1), NOT_FOUND);
        due("border bottom", x.reason(2, 2), 0);
        due("place 4", x.reason(4, 0), INVALID);
        due("place -1", x.reason(-1, 0), INVALID);
        due("edge 4", x.reason(0, 4), INVALID);
        due("edge -1", x.reason(0, -1), INVALID);
        due("a wrong edge of an empty place", x.reason(3, 4), INVALID);
    }

    private static void ways() {
        promise = 16;
        TornPages x = new TornPages();
        x.addScrap(-1, -1, -1, -1, 0);
        x.addScrap(0, 0, 0, 0, 0);
        x.addScrap(-1, 123, -1, -1, 0);
        Pages.addText(x, "-/0,-/0,-/0,678/1;0");
        Pages.addText(x, "-/0,-/0,-/0,678/0;1");
        Pages.addText(x, "-/0,-/0,-/0,876/1;1");
        x.reset(3, 3);
        due("the middle", x.ways(1, 4), 8);
        due("all straight in a corner", x.ways(0, 0), 8);
        due("no edge straight in a corner", x.ways(1, 8), 0);
        x.reset(2, 1);
        due("one edge not straight", x.ways(2, 0), 2);
        x.lay(2, 0, 0);
        due("another scrap lies there", x.ways(3, 0), NOT_POSSIBLE);
        due("its back has no line", x.ways(3, 1), 1);
        due("only turned over", x.ways(4, 1), 1);
        due("the line is wrong", x.ways(5, 1), 0);
        due("where it lies", x.ways(2, 0), 2);
        due("beside where it lies", x.ways(2, 1), 2);
        due("scrap 6", x.ways(6, 0), INVALID);
        due("scrap -1", x.ways(-1, 0), INVALID);
        due("place 2", x.ways(0, 2), INVALID);
        due("place -1", x.ways(0, -1), INVALID);
        due("a wrong scrap where one lies", x.ways(9, 0), INVALID);
    }

    private static void bestFor() {
        promise = 17;
        TornPages x = Pages.fourScraps();
        due("an empty page", x.bestFor(0), 0);
        due("orientation 1 is the lowest", x.bestFor(2), 1);
        x.lay(0, 3, 2);
        due("more seams elsewhere", x.bestFor(1), 22);
        due("it lies", x.bestFor(0), NOT_POSSIBLE);
        due("scrap 4", x.bestFor(4), INVALID);
        due("scrap -1", x.bestFor(-1), INVALID);
        x.addScrap(1, 1, 1, 1, 1);
        due("nowhere", x.bestFor(4), NOT_FOUND);
        x.reset(3, 3);
        due("the middle alone", x.bestFor(4), 40);
        x.force(0, 4, 0);
        due("the middle is taken", x.bestFor(4), NOT_FOUND);
        x.reset(6, 6);
        x.addScrap(5, 5, 5, 5, 0);
        due("the lowest of many", x.bestFor(5), 70);
    }

    private static void fill() {
        promise = 18;
        TornPages x = Pages.fourScraps();
        due("fill", x.fill(), 4);
        dueCounts(x, 4, 4, 2, 2, 1, 4, 4, 8, 0, 0, 5);
        for (int scrap = 0; scrap < 4; scrap++) {
            due("at(" + scrap + ")", x.at(scrap), scrap);
        }
        due("fill again", x.fill(), 0);
        x.undo();
        due("one change each", x.undo(), 3);
        due("nothing lies", x.count(1), 0);
        TornPages y = new TornPages();
        y.addScrap(444, -1, -1, -1, 0);
        y.addScrap(-1, -1, 555, -1, 0);
        y.addScrap(-1, -1, -1, -1, 0);
        y.addScrap(777, 777, 777, 777, 0);
        y.reset(1, 3);
        due("the lowest first", y.fill(), 2);
        due("at(0)", y.at(0), 0);
        due("orientation", y.scrap(0, 1), 2);
        due("at(1)", y.at(1), 1);
        due("its orientation", y.scrap(1, 1), 2);
        due("at(2)", y.at(2), NOT_FOUND);
        TornPages z = new TornPages();
        z.addScrap(555, -1, 444, -1, 0);
        z.addScrap(-1, -1, 444, -1, 0);
        z.addScrap(555, -1, -1, -1, 0);
        z.reset(1, 3);
        due("those that can be laid later", z.fill(), 3);
        due("groups", z.count(4), 1);
        due("no scraps", new TornPages().fill(), 0);
        due("no room", twelveScraps().fill(), 2);
    }

    private static void member() {
        promise = 19;
        TornPages x = Pages.fourLaid();
        for (int index = 0; index < 4; index++) {
            due("member(0, " + index + ")", x.member(0, index), index);
        }
        due("too many", x.member(0, 4), NOT_FOUND);
        due("far too many", x.member(0, Integer.MAX_VALUE), NOT_FOUND);
        due("index -1", x.member(0, -1), INVALID);
        due("no such group", x.member(1, 0), INVALID);
        due("group -1", x.member(-1, 0), INVALID);
        x.turn(0, 1);
        due("alone", x.member(0, 0), 0);
        due("alone", x.member(0, 1), NOT_FOUND);
        due("the others", x.member(1, 0), 1);
        due("the others", x.member(1, 1), 2);
        due("the others", x.member(1, 2), 3);
        due("the others", x.member(1, 3), NOT_FOUND);
        x.lift(3);
        due("apart", x.member(1, 0), 1);
        due("apart", x.member(2, 0), 2);
        due("apart", x.member(2, 1), NOT_FOUND);
        due("apart", x.member(3, 0), INVALID);
        due("nothing lies", new TornPages().member(0, 0), INVALID);
        TornPages y = new TornPages();
        y.addScrap(-1, -1, -1, -1, 0);
        y.addScrap(-1, 444, -1, -1, 0);
        y.addScrap(-1, 444, -1, 555, 0);
        y.addScrap(-1, -1, -1, 555, 0);
        y.addScrap(-1, -1, -1, -1, 0);
        y.reset(5, 1);
        y.force(3, 2, 0);
        y.force(2, 1, 0);
        y.force(1, 0, 0);
        y.force(4, 3, 0);
        due("in a row", y.member(0, 0) * 100 + y.member(0, 1) * 10 + y.member(0, 2), 123);
        due("in a row", y.member(0, 3), NOT_FOUND);
        due("behind", y.member(1, 0), 4);
        due("its number", y.scrap(4, 3), 1);
    }

    private static void canFill() {
        promise = 20;
        TornPages x = Pages.fourScraps();
        due("four", x.canFill(), 1);
        x.force(3, 0, 5);
        x.force(0, 3, 1);
        due("from an empty page on", x.canFill(), 1);
        due("it changes nothing", x.at(0) * 1000 + x.scrap(3, 1) * 100 + x.at(3) * 10
                + x.scrap(0, 1), 3501);
        x.addScrap(1, 1, 1, 1, 1);
        due("too many", x.canFill(), NOT_POSSIBLE);
        x.removeScrap(0);
        due("the wrong ones", x.canFill(), 0);
        x.removeScrap(3);
        due("too few", x.canFill(), NOT_POSSIBLE);
        due("no scraps", new TornPages().canFill(), NOT_POSSIBLE);
        TornPages y = new TornPages();
        y.addScrap(-1, -1, -1, -1, 0);
        y.reset(1, 1);
        due("a single place", y.canFill(), 1);
        y.removeScrap(0);
        y.addScrap(-1, -1, -1, 0, 0);
        due("a single place with an edge", y.canFill(), 0);
        TornPages z = new TornPages();
        for (int scrap = 0; scrap < 7; scrap++) {
            z.addScrap(-1, -1, -1, -1, 0);
        }
        z.reset(6, 1);
        due("seven scraps for six places", z.canFill(), NOT_POSSIBLE);
        z.removeScrap(0);
        due("six that do not join", z.canFill(), 0);
        z.addScrap(-1, -1, -1, -1, 0);
        z.addScrap(-1, -1, -1, -1, 0);
        z.reset(2, 4);
        due("eight for eight places", z.canFill(), NOT_POSSIBLE);
        due("twelve for twelve places", twelveAtTwelve().canFill(), NOT_POSSIBLE);
    }

    private static TornPages twelveAtTwelve() {
        TornPages x = twelveScraps();
        x.reset(3, 4);
        return x;
    }

    private static void canFillOnLongPages() {
        TornPages x = new TornPages();
        Pages.addText(x, "-/0,-/0,-/0,567/5;1");
        Pages.addText(x, "-/0,234/2,-/0,876/1;1");
        Pages.addText(x, "-/0,345/3,-/0,765/2;1");
        Pages.addText(x, "-/0,123/1,-/0,-/0;1");
        Pages.addText(x, "-/0,432/5,-/0,456/4;1");
        Pages.addText(x, "-/0,543/4,-/0,654/3;1");
        x.reset(6, 1);
        due("six in a row", x.canFill(), 1);
        x.reset(1, 6);
        due("six in a column", x.canFill(), 1);
        x.reset(3, 2);
        due("three by two", x.canFill(), 0);
        x.removeScrap(0);
        Pages.addText(x, "-/0,-/0,-/0,567/6;1");
        x.reset(6, 1);
        due("a wrong line", x.canFill(), 0);
        TornPages back = new TornPages();
        Pages.addText(back, "-/0,444/1,-/0,-/0;0");
        Pages.addText(back, "-/0,-/0,-/0,555/0;0");
        back.reset(2, 1);
        due("only with a back", back.canFill(), 1);
        TornPages other = new TornPages();
        other.addScrap(-1, 123, -1, -1, 0);
        other.addScrap(-1, 321, -1, -1, 0);
        other.addScrap(-1, 567, -1, 678, 0);
        other.reset(3, 1);
        due("the first must not be in the middle", other.canFill(), 0);
        other.removeScrap(1);
        other.addScrap(-1, -1, -1, 432, 0);
        due("now they join", other.canFill(), 1);
        other.removeScrap(0);
        other.addScrap(-1, 123, -1, -1, 0);
        due("whatever comes first", other.canFill(), 1);
        TornPages y = new TornPages();
        y.addScrap(-1, 444, 444, -1, 0);
        y.addScrap(-1, 444, 444, 555, 0);
        y.addScrap(-1, -1, 444, 555, 0);
        y.addScrap(555, 444, -1, -1, 0);
        y.addScrap(555, 444, -1, 555, 0);
        y.addScrap(555, -1, -1, 555, 0);
        y.reset(3, 2);
        due("three by two", y.canFill(), 1);
        y.reset(2, 3);
        due("two by three", y.canFill(), 1);
        y.reset(6, 1);
        due("not six by one", y.canFill(), 0);
    }

    private static void type() {
        promise = 21;
        TornPages x = new TornPages();
        due("31", x.type(31), INVALID);
        due("127", x.type(127), INVALID);
        due("-1", x.type(-1), INVALID);
        due("MAX", x.type(Integer.MAX_VALUE), INVALID);
        due("32", x.type(32), 1);
        due("126", x.type(126), 2);
        for (int length = 3; length <= 60; length++) {
            due("character " + length, x.type('x'), length);
        }
        due("a 61st", x.type('x'), LIMIT);
        due("a wrong 61st", x.type(127), INVALID);
        due("length", x.count(11), 60);
        due("it is no change", x.count(10), 0);
    }

    private static void clearText() {
        promise = 22;
        TornPages x = new TornPages();
        due("empty", x.clearText(), 0);
        x.type('-');
        x.type('/');
        due("of two", x.clearText(), 2);
        due("length", x.count(11), 0);
        due("fault", x.fault(), 0);
        due("again", x.clearText(), 0);
        x.type('-');
        due("nothing of the old text", x.fault(), 1);
        for (int length = 2; length <= 60; length++) {
            x.type('-');
        }
        due("of sixty", x.clearText(), 60);
        due("room again", x.type('-'), 1);
    }

    private static void fault() {
        promise = 23;
        String good = "012/3,-/0,345/0,999/9;1";
        due(good, faultOf(good), NOT_FOUND);
        for (int length = 0; length < good.length(); length++) {
            String begun = good.substring(0, length);
            due(begun, faultOf(begun), length);
            due(begun + "x", faultOf(begun + "x"), length);
            due(begun + " ", faultOf(begun + " "), length);
        }
        due("straight alone", faultOf("-/0,-/0,-/0,-/0;0"), NOT_FOUND);
        due("the longest", faultOf("000/0,999/9,123/4,567/8;0"), NOT_FOUND);
        due("kind 2", faultOf("-/0,-/0,-/0,-/0;2"), 16);
        due("more behind", faultOf("-/0,-/0,-/0,-/0;00"), 17);
        due("a blank behind", faultOf("-/0,-/0,-/0,-/0;0 "), 17);
        due("a fifth edge", faultOf("-/0,-/0,-/0,-/0,"), 15);
        due("three edges", faultOf("-/0,-/0,-/0;"), 11);
        due("line of a straight edge", faultOf("-/1,-/0,-/0,-/0;0"), 2);
        due("line of a later one", faultOf("000/1,-/9"), 8);
        due("a sign for a digit", faultOf("0:0/1"), 1);
        due("a sign for a digit", faultOf("00//1"), 2);
        due("two digits", faultOf("00/1"), 2);
        due("four digits", faultOf("0000/1"), 3);
        due("a sign for a line", faultOf("000/:"), 4);
        due("a line of two digits", faultOf("000/10"), 5);
        due("a sign below the digits", faultOf("/"), 0);
        due("minus and digits", faultOf("-1/0"), 1);
        due("a wrong sign between", faultOf("-/0;"), 3);
        due("sixty wrong ones", faultOf("x".repeat(60)), 0);
    }

    private static void errorsChangeNothing() {
        promise = 0;
        TornPages x = Pages.fourLaid();
        x.type('-');
        x.reset(7, 1);
        x.addScrap(-2, 0, 0, 0, 0);
        x.add();
        x.removeScrap(4);
        x.lay(0, 1, 0);
        x.force(0, 1, 0);
        x.lift(4);
        x.turn(0, 8);
        x.type(127);
        dueCounts(x, 4, 4, 2, 2, 1, 4, 4, 8, 0, 0, 5, 1);
        due("undo", x.undo(), 4);
        due("the last change was the last lay", x.at(3), NOT_FOUND);
        due("but it alone", x.count(1), 3);
    }
}
