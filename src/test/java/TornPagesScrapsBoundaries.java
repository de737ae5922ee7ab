import java.io.IOException;

/** A test for each sentence of the promises 1 to 9 that names a boundary. */
public final class TornPagesScrapsBoundaries extends Sentences {

    public static void main(String[] args) throws IOException {
        run(TornPagesScrapsBoundaries.class, "Promise 1", "Promise 2", "Promise 3", "Promise 4",
                "Promise 5", "Promise 6", "Promise 7", "Promise 8", "Promise 9");
    }

    // ---- Promise 1: A new object

    @Says(in = "Promise 1", words = "Creates an empty page of 4 by 4 places without scraps.")
    static void p01EmptyPageOf4By4() {
        TornPages x = new TornPages();
        same("counts", Pages.counts(x), "0 0 4 4 0 0 0 0 0 16");
        same("the page", Pages.laid(x), ". . . . . . . . . . . . . . . .");
        due("the last place", x.at(15), NOT_FOUND);
        due("none behind it", x.at(16), INVALID);
    }

    @Says(in = "Promise 1", words = "Creates an empty page of 4 by 4 places without scraps.")
    static void p01WithoutScraps() {
        TornPages x = new TornPages();
        due("scrap 0", x.scrap(0, 0), INVALID);
        due("removeScrap", x.removeScrap(0), INVALID);
        due("group 0", x.member(0, 0), INVALID);
        due("fill", x.fill(), 0);
        due("canFill", x.canFill(), NOT_POSSIBLE);
        due("the first scrap", x.addScrap(-1, -1, -1, -1, 0), 0);
    }

    @Says(in = "Promise 1", words = "Creates an empty page of 4 by 4 places without scraps.")
    static void p01EmptyTextAndHistory() {
        TornPages x = new TornPages();
        due("undo", x.undo(), NOT_POSSIBLE);
        due("states", x.count(10), 0);
        due("the text", x.count(11), 0);
        due("clearText", x.clearText(), 0);
    }

    @Says(in = "Promise 1", words = "Creates an empty page of 4 by 4 places without scraps.")
    static void p01EachObjectForItself() {
        TornPages other = Pages.fourLaid();
        Pages.write(other, "-/0,-/0,-/0,-/0;1");
        TornPages x = new TornPages();
        same("the new one", Pages.counts(x), "0 0 4 4 0 0 0 0 0 16");
        due("its history", x.count(10), 0);
        due("its text", x.count(11), 0);
        x.reset(1, 1);
        x.type('~');
        same("the other one", Pages.counts(other), "4 4 2 2 1 4 4 8 0 0");
        due("the other's text", other.fault(), NOT_FOUND);
    }

    // ---- Promise 2: reset

    @Says(in = "Promise 2", words = "`width`: 1 to 6")
    static void p02Width1To6() {
        TornPages x = new TornPages();
        int[] refused = {0, 7, -1, 8, MIN, MAX, 256 + 1};
        for (int width : refused) {
            due("reset(" + width + ", 1)", x.reset(width, 1), INVALID);
        }
        for (int width = 1; width <= 6; width++) {
            due("reset(" + width + ", 1)", x.reset(width, 1), 0);
            due("width", x.count(2), width);
        }
    }

    @Says(in = "Promise 2", words = "`height`: 1 to 6")
    static void p02Height1To6() {
        TornPages x = new TornPages();
        int[] refused = {0, 7, -1, 8, MIN, MAX, 256 + 1};
        for (int height : refused) {
            due("reset(1, " + height + ")", x.reset(1, height), INVALID);
        }
        for (int height = 1; height <= 6; height++) {
            due("reset(1, " + height + ")", x.reset(1, height), 0);
            due("height", x.count(3), height);
        }
    }

    @Says(in = "Promise 2", words = "Begins anew with an empty page")
    static void p02EmptyPage() {
        int[][] sizes = {{2, 2}, {1, 1}, {6, 6}, {2, 1}};
        for (int[] size : sizes) {
            TornPages x = Pages.fourLaid();
            due("reset", x.reset(size[0], size[1]), 4);
            for (int place = 0; place < size[0] * size[1]; place++) {
                due("at(" + place + ")", x.at(place), NOT_FOUND);
            }
            due("the place behind the last", x.at(size[0] * size[1]), INVALID);
            due("empty places", x.count(9), size[0] * size[1]);
            due("groups", x.count(4), 0);
        }
    }

    @Says(in = "Promise 2", words = "all scraps lie beside it")
    static void p02AllScrapsBeside() {
        TornPages x = Pages.full(4, 3);
        x.turn(11, 7);
        due("reset", x.reset(6, 6), 12);
        due("scraps", x.count(0), 12);
        for (int scrap = 0; scrap < 12; scrap++) {
            due("orientation of " + scrap, x.scrap(scrap, 1), 0);
            due("place of " + scrap, x.scrap(scrap, 2), NOT_FOUND);
            due("lift of " + scrap, x.lift(scrap), NOT_POSSIBLE);
        }
        same("a scrap stays as it is", Pages.profiles(x, 5, 0), "555 444 444 555");
    }

    @Says(in = "Promise 2", words = "Returns how many scraps lay on the page")
    static void p02ReturnsHowManyLay() {
        due("without scraps", new TornPages().reset(1, 1), 0);
        due("all beside", Pages.fourScraps().reset(1, 1), 0);
        TornPages x = Pages.alike(6, 6, 12, 0);
        for (int lying = 0; lying <= 12; lying++) {
            x.reset(6, 6);
            for (int scrap = 0; scrap < lying; scrap++) {
                x.force(scrap, scrap, 0);
            }
            due("with " + lying, x.reset(6, 6), lying);
        }
        due("and none anymore", x.reset(6, 6), 0);
    }

    @Says(in = "Promise 2", words = "INVALID_ARGUMENT if an argument is out of range.")
    static void p02RefusedKeepsThePage() {
        TornPages x = Pages.fourLaid();
        String before = Pages.picture(x);
        due("both too low", x.reset(0, 0), INVALID);
        due("both too high", x.reset(7, 7), INVALID);
        due("a good width", x.reset(3, 0), INVALID);
        due("a good height", x.reset(0, 3), INVALID);
        same("the page", Pages.picture(x), before);
    }

    // ---- Promise 3: addScrap

    @Says(in = "Promise 3", words = "`top`: -1 to 999")
    static void p03Top() {
        dueProfileRange(0);
    }

    @Says(in = "Promise 3", words = "`right`: -1 to 999")
    static void p03Right() {
        dueProfileRange(1);
    }

    @Says(in = "Promise 3", words = "`bottom`: -1 to 999")
    static void p03Bottom() {
        dueProfileRange(2);
    }

    @Says(in = "Promise 3", words = "`left`: -1 to 999")
    static void p03Left() {
        dueProfileRange(3);
    }

    private static void dueProfileRange(int edge) {
        TornPages x = new TornPages();
        int[] refused = {-2, 1000, -3, 1001, -999, -1001, MIN, MAX, 65536};
        for (int profile : refused) {
            due("the profile " + profile, addWith(x, edge, profile), INVALID);
        }
        due("scraps", x.count(0), 0);
        int[] taken = {-1, 0, 1, 9, 10, 99, 100, 998, 999};
        for (int scrap = 0; scrap < taken.length; scrap++) {
            due("the profile " + taken[scrap], addWith(x, edge, taken[scrap]), scrap);
            due("it", x.edge(scrap, 0, edge, 0), taken[scrap]);
            due("the next one", x.edge(scrap, 0, (edge + 1) % 4, 0), 500);
        }
    }

    private static int addWith(TornPages x, int edge, int profile) {
        int[] profiles = {500, 500, 500, 500};
        profiles[edge] = profile;
        return x.addScrap(profiles[0], profiles[1], profiles[2], profiles[3], 0);
    }

    @Says(in = "Promise 3", words = "`kind`: 0 or 1")
    static void p03Kind0Or1() {
        TornPages x = new TornPages();
        int[] refused = {-1, 2, 3, MIN, MAX, 256};
        for (int kind : refused) {
            due("the kind " + kind, x.addScrap(0, 0, 0, 0, kind), INVALID);
        }
        due("the kind 0", x.addScrap(0, 0, 0, 0, 0), 0);
        due("the kind 1", x.addScrap(0, 0, 0, 0, 1), 1);
        due("kind of 0", x.scrap(0, 0), 0);
        due("kind of 1", x.scrap(1, 0), 1);
    }

    @Says(in = "Promise 3", words = "Adds a scrap without lines.")
    static void p03WithoutLines() {
        TornPages x = Pages.withScraps(4, 4, "111/9,222/8,333/7,444/6;1");
        x.removeScrap(0);
        x.addScrap(111, 222, 333, 444, 1);
        for (int orientation = 0; orientation < 8; orientation++) {
            same("lines", Pages.lines(x, 0, orientation), "0 0 0 0");
        }
        x.add();
        same("those of a text before", Pages.lines(x, 1, 0), "9 8 7 6");
        x.addScrap(111, 222, 333, 444, 1);
        same("none of the text", Pages.lines(x, 2, 0), "0 0 0 0");
    }

    @Says(in = "Promise 3", words = "Returns the number of the scrap")
    static void p03ReturnsItsNumber() {
        TornPages x = new TornPages();
        for (int scrap = 0; scrap < 12; scrap++) {
            due("addScrap", x.addScrap(scrap, 0, 0, 0, 0), scrap);
        }
        x.removeScrap(3);
        due("behind the others", x.addScrap(77, 0, 0, 0, 0), 11);
        due("it", x.edge(11, 0, 0, 0), 77);
        due("the one before", x.edge(10, 0, 0, 0), 11);
    }

    @Says(in = "Promise 3", words = "INVALID_ARGUMENT if an argument is out of range")
    static void p03AllOutOfRange() {
        TornPages x = new TornPages();
        due("all too low", x.addScrap(-2, -2, -2, -2, -1), INVALID);
        due("all too high", x.addScrap(1000, 1000, 1000, 1000, 2), INVALID);
        due("the lowest numbers", x.addScrap(MIN, MIN, MIN, MIN, MIN), INVALID);
        due("the highest numbers", x.addScrap(MAX, MAX, MAX, MAX, MAX), INVALID);
        due("scraps", x.count(0), 0);
        due("states", x.count(10), 0);
    }

    @Says(in = "Promise 3", words = "LIMIT_REACHED if there are 12.")
    static void p03LimitAt12() {
        TornPages x = Pages.alike(2, 2, 11, -1);
        due("the 12th", x.addScrap(1, 2, 3, 4, 1), 11);
        due("a 13th", x.addScrap(5, 6, 7, 8, 0), LIMIT);
        due("scraps", x.count(0), 12);
        same("the 12th", Pages.profiles(x, 11, 0), "1 2 3 4");
        due("no 13th", x.scrap(12, 0), INVALID);
        due("a page of another size makes no room", x.reset(6, 6) + x.addScrap(1, 2, 3, 4, 1), LIMIT);
    }

    // ---- Promise 4: add

    @Says(in = "Promise 4", words = "Adds the scrap of the text, which stays.")
    static void p04TheTextStays() {
        TornPages x = Pages.withText("000/0,999/9,001/1,-/0;1");
        for (int scrap = 0; scrap < 12; scrap++) {
            due("add", x.add(), scrap);
            due("length", x.count(11), 23);
            due("fault", x.fault(), NOT_FOUND);
        }
        same("the first", Pages.edges(x, 0, 0), "0 999 1 -1 / 0 9 1 0");
        same("the last", Pages.edges(x, 11, 0), "0 999 1 -1 / 0 9 1 0");
        due("its kind", x.scrap(11, 0), 1);
    }

    @Says(in = "Promise 4", words = "NOT_POSSIBLE if the text has a fault")
    static void p04NotPossibleWithAFault() {
        String[] faulty = {"", "-", "-/0,-/0,-/0,-/0;", "-/0,-/0,-/0,-/0", "-/0,-/0,-/0,-/0;2",
            "-/0,-/0,-/0,-/0;0 ", "-/0,-/0,-/0,-/0;00", " -/0,-/0,-/0,-/0;0", "-/1,-/0,-/0,-/0;0",
            "-/0,-/0,-/0,-/9;0", "00/0,-/0,-/0,-/0;0", "0000/0,-/0,-/0,-/0;0"};
        for (String text : faulty) {
            TornPages x = Pages.withText(text);
            due("add of '" + text + "'", x.add(), NOT_POSSIBLE);
            due("scraps", x.count(0), 0);
            due("states", x.count(10), 0);
            due("length", x.count(11), text.length());
        }
    }

    @Says(in = "Promise 4", words = "NOT_POSSIBLE if the text has a fault")
    static void p04PossibleAgainWithoutAFault() {
        TornPages x = Pages.withText("-/0,-/0,-/0,-/0;");
        due("too early", x.add(), NOT_POSSIBLE);
        x.type('1');
        due("whole", x.add(), 0);
        x.type('1');
        due("too long", x.add(), NOT_POSSIBLE);
        x.clearText();
        due("emptied", x.add(), NOT_POSSIBLE);
        due("scraps", x.count(0), 1);
    }

    @Says(in = "Promise 4", words = "Returns the number of the scrap")
    static void p04ReturnsItsNumber() {
        TornPages x = Pages.alike(4, 4, 3, 0);
        due("behind the others", Pages.addText(x, "001/1,-/0,-/0,-/0;0"), 3);
        x.removeScrap(0);
        due("and again", x.add(), 3);
        same("it", Pages.edges(x, 3, 0), "1 -1 -1 -1 / 1 0 0 0");
    }

    @Says(in = "Promise 4", words = "LIMIT_REACHED if there are 12.")
    static void p04LimitAt12() {
        TornPages x = Pages.alike(2, 2, 11, -1);
        Pages.write(x, "123/4,-/0,-/0,-/0;1");
        due("the 12th", x.add(), 11);
        due("a 13th", x.add(), LIMIT);
        due("scraps", x.count(0), 12);
        due("the text stays", x.count(11), 19);
        x.removeScrap(0);
        due("there is room again", x.add(), 11);
    }

    // ---- Promise 5: removeScrap

    @Says(in = "Promise 5", words = "Removes a scrap, whether it lies on the page (its place is empty "
            + "then) or not")
    static void p05ItsPlaceIsEmptyThen() {
        for (int scrap = 0; scrap < 4; scrap++) {
            TornPages x = Pages.fourLaid();
            due("removeScrap", x.removeScrap(scrap), 3);
            due("its place", x.at(scrap), NOT_FOUND);
            due("empty places", x.count(9), 1);
            due("on the page", x.count(1), 3);
            due("seams", x.count(5), 2);
        }
    }

    @Says(in = "Promise 5", words = "Removes a scrap, whether it lies on the page (its place is empty "
            + "then) or not")
    static void p05OneBesideThePage() {
        TornPages x = Pages.fourLaid();
        x.lift(1);
        due("removeScrap", x.removeScrap(1), 3);
        same("the page", Pages.laid(x), "0 . 1 2");
        TornPages y = Pages.fourScraps();
        due("when none lies", y.removeScrap(0), 3);
        same("the page", Pages.laid(y), ". . . .");
    }

    @Says(in = "Promise 5", words = "the numbers of the later ones decrease by 1")
    static void p05LaterNumbersDecrease() {
        for (int removed = 0; removed < 12; removed += removed == 0 ? 5 : 6) {
            TornPages x = new TornPages();
            for (int scrap = 0; scrap < 12; scrap++) {
                Pages.addText(x, (char) ('0' + scrap % 10) + "00/" + scrap % 10 + ",-/0,-/0,-/0;"
                        + scrap % 2);
                x.force(scrap, 15 - scrap, scrap % 8);
            }
            due("removeScrap(" + removed + ")", x.removeScrap(removed), 11);
            for (int scrap = 0; scrap < 11; scrap++) {
                int was = scrap < removed ? scrap : scrap + 1;
                due("profile", x.edge(scrap, 0, 0, 0), was % 10 * 100);
                due("line", x.edge(scrap, 0, 0, 1), was % 10);
                due("kind", x.scrap(scrap, 0), was % 2);
                due("orientation", x.scrap(scrap, 1), was % 8);
                due("place", x.scrap(scrap, 2), 15 - was);
                due("at", x.at(15 - was), scrap);
            }
            due("the last number", x.scrap(11, 0), INVALID);
            due("the empty place", x.at(15 - removed), NOT_FOUND);
        }
    }

    @Says(in = "Promise 5", words = "the numbers of the later ones decrease by 1")
    static void p05TheNewLastOneIsNotTheOld() {
        TornPages x = Pages.full(4, 3);
        x.turn(11, 5);
        x.removeScrap(11);
        due("a new twelfth", x.addScrap(1, 2, 3, 4, 1), 11);
        due("beside the page", x.scrap(11, 2), NOT_FOUND);
        due("orientation", x.scrap(11, 1), 0);
        due("its place is empty", x.at(11), NOT_FOUND);
        x.removeScrap(0);
        x.addScrap(1, 2, 3, 4, 1);
        due("another twelfth", x.scrap(11, 2), NOT_FOUND);
        due("the one before", x.scrap(10, 2), NOT_FOUND);
        due("the one that lies", x.scrap(9, 2), 10);
    }

    @Says(in = "Promise 5", words = "Returns the number of scraps that remain; INVALID_ARGUMENT.")
    static void p05ReturnsHowManyRemain() {
        TornPages x = Pages.alike(4, 4, 12, 0);
        for (int remain = 11; remain >= 0; remain--) {
            due("no such scrap", x.removeScrap(remain + 1), INVALID);
            due("removeScrap", x.removeScrap(remain / 2), remain);
            due("scraps", x.count(0), remain);
        }
        due("none is left", x.removeScrap(0), INVALID);
        due("-1", x.removeScrap(-1), INVALID);
        due("the lowest number", x.removeScrap(MIN), INVALID);
        due("the highest number", x.removeScrap(MAX), INVALID);
    }

    // ---- Promise 6: scrap

    @Says(in = "Promise 6", words = "`scrap`: number of the scrap")
    static void p06ScrapNumbers() {
        TornPages x = Pages.fourLaid();
        int[] refused = {-1, 4, 12, MIN, MAX};
        for (int scrap : refused) {
            for (int what = 0; what <= 5; what++) {
                due("scrap(" + scrap + ", " + what + ")", x.scrap(scrap, what), INVALID);
            }
        }
        due("the first", x.scrap(0, 2), 0);
        due("the last", x.scrap(3, 2), 3);
    }

    @Says(in = "Promise 6", words = "1: its orientation, 0 beside the page")
    static void p06OrientationBesideThePage() {
        TornPages x = Pages.alike(2, 2, 2, 0);
        due("never laid", x.scrap(0, 1), 0);
        x.force(0, 0, 7);
        due("on the page", x.scrap(0, 1), 7);
        x.turn(0, 6);
        due("turned", x.scrap(0, 1), 6);
        x.lift(0);
        due("lifted", x.scrap(0, 1), 0);
        x.force(0, 0, 5);
        x.force(1, 1, 3);
        x.reset(2, 2);
        due("after reset", x.scrap(0, 1), 0);
        due("the other one", x.scrap(1, 1), 0);
        x.undo();
        due("after undo", x.scrap(0, 1), 5);
        x.removeScrap(0);
        due("the other one, renumbered", x.scrap(0, 1), 3);
    }

    @Says(in = "Promise 6", words = "4: how many of its seams and border edges fit; 5: how many of them "
            + "do not fit")
    static void p06FromNoneToAllFit() {
        TornPages x = Pages.alike(3, 3, 1, 0);
        x.addScrap(-1, -1, -1, -1, 0);
        x.force(0, 4, 0);
        dueFits(x, 0, 0, 0);
        x.reset(1, 1);
        x.force(0, 0, 0);
        dueFits(x, 0, 0, 4);
        x.lift(0);
        x.force(1, 0, 0);
        dueFits(x, 1, 4, 0);
        TornPages y = Pages.full(3, 3);
        for (int scrap = 0; scrap < 9; scrap++) {
            dueFits(y, scrap, 4, 0);
        }
        y.turn(4, 2);
        dueFits(y, 4, 0, 4);
        dueFits(y, 1, 3, 1);
        y.lift(4);
        dueFits(y, 1, 3, 0);
        dueFits(y, 0, 4, 0);
    }

    private static void dueFits(TornPages x, int scrap, int fit, int misfit) {
        due("fits of " + scrap, x.scrap(scrap, 4), fit);
        due("misfits of " + scrap, x.scrap(scrap, 5), misfit);
    }

    @Says(in = "Promise 6", words = "INVALID_ARGUMENT if an argument is out of range")
    static void p06WhatOutOfRange() {
        TornPages x = Pages.fourLaid();
        x.lift(0);
        int[] refused = {-1, 6, 7, MIN, MAX};
        for (int what : refused) {
            due("scrap(0, " + what + ") beside", x.scrap(0, what), INVALID);
            due("scrap(1, " + what + ") on the page", x.scrap(1, what), INVALID);
            due("scrap(4, " + what + ")", x.scrap(4, what), INVALID);
        }
        due("5 is none of them", x.scrap(1, 5), 0);
    }

    @Says(in = "Promise 6", words = "NOT_FOUND for 2 to 5 if it lies beside the page.")
    static void p06NotFoundBesideThePage() {
        TornPages x = Pages.withScraps(2, 2, "000/0,000/0,000/0,000/0;1");
        dueBeside(x, "never laid");
        x.force(0, 3, 2);
        x.lift(0);
        dueBeside(x, "lifted");
        x.force(0, 3, 2);
        x.reset(2, 2);
        dueBeside(x, "after reset");
        x.force(0, 3, 2);
        x.undo();
        dueBeside(x, "after undo");
    }

    private static void dueBeside(TornPages x, String how) {
        due("kind, " + how, x.scrap(0, 0), 1);
        due("orientation, " + how, x.scrap(0, 1), 0);
        for (int what = 2; what <= 5; what++) {
            due("scrap(0, " + what + "), " + how, x.scrap(0, what), NOT_FOUND);
        }
    }

    // ---- Promise 7: edge

    @Says(in = "Promise 7", words = "`scrap`: number of the scrap")
    static void p07ScrapNumbers() {
        TornPages x = Pages.alike(4, 4, 12, 7);
        int[] refused = {-1, 12, MIN, MAX};
        for (int scrap : refused) {
            due("edge(" + scrap + ", 0, 0, 0)", x.edge(scrap, 0, 0, 0), INVALID);
            due("edge(" + scrap + ", 7, 3, 1)", x.edge(scrap, 7, 3, 1), INVALID);
        }
        due("the first", x.edge(0, 0, 0, 0), 7);
        due("the last", x.edge(11, 0, 0, 0), 7);
        due("without scraps", new TornPages().edge(0, 0, 0, 0), INVALID);
    }

    @Says(in = "Promise 7", words = "`orientation`: 0 to 7")
    static void p07Orientations() {
        TornPages x = Pages.withScraps(4, 4, "012/1,345/2,678/3,901/4;1");
        int[] refused = {-1, 8, 9, MIN, MAX};
        for (int orientation : refused) {
            for (int edge = 0; edge < 4; edge++) {
                due("profile", x.edge(0, orientation, edge, 0), INVALID);
                due("line", x.edge(0, orientation, edge, 1), INVALID);
            }
        }
        due("the first", x.edge(0, 0, 3, 0), 901);
        due("the last", x.edge(0, 7, 3, 0), 12);
    }

    @Says(in = "Promise 7", words = "`edge`: 0 to 3")
    static void p07Edges() {
        TornPages x = Pages.alike(4, 4, 2, 5);
        int[] refused = {-1, 4, 5, MIN, MAX};
        for (int edge : refused) {
            for (int orientation = 0; orientation < 8; orientation++) {
                due("edge(0, " + orientation + ", " + edge + ", 0)", x.edge(0, orientation, edge, 0),
                        INVALID);
            }
        }
        due("the last", x.edge(1, 0, 3, 0), 5);
    }

    @Says(in = "Promise 7", words = "`what`: 0: the profile, -1 if it is straight; 1: the line")
    static void p07What() {
        TornPages x = Pages.withScraps(4, 4, "-/0,000/0,999/9,123/4;0");
        int[] refused = {-1, 2, 3, MIN, MAX};
        for (int what : refused) {
            due("edge(0, 0, 0, " + what + ")", x.edge(0, 0, 0, what), INVALID);
        }
        same("both", Pages.edges(x, 0, 0), "-1 0 999 123 / 0 0 9 4");
    }

    @Says(in = "Promise 7", words = "Returns something of an edge of a scrap as it would be in an "
            + "orientation.")
    static void p07WhateverItsOrientationIs() {
        TornPages x = Pages.withScraps(4, 4, "012/1,345/2,678/3,901/4;1");
        String[] beside = new String[8];
        for (int orientation = 0; orientation < 8; orientation++) {
            beside[orientation] = Pages.edges(x, 0, orientation);
        }
        x.force(0, 5, 6);
        for (int orientation = 0; orientation < 8; orientation++) {
            same("on the page", Pages.edges(x, 0, orientation), beside[orientation]);
        }
    }

    @Says(in = "Promise 7", words = "INVALID_ARGUMENT if an argument is out of range.")
    static void p07AllOutOfRange() {
        TornPages x = Pages.alike(4, 4, 1, 5);
        due("just behind", x.edge(1, 8, 4, 2), INVALID);
        due("just before", x.edge(-1, -1, -1, -1), INVALID);
        due("the lowest numbers", x.edge(MIN, MIN, MIN, MIN), INVALID);
        due("the highest numbers", x.edge(MAX, MAX, MAX, MAX), INVALID);
    }

    // ---- Promise 8: undo

    @Says(in = "Promise 8", words = "Restores the latest state of the history, which is removed from it.")
    static void p08RestoresTheLatestAndRemovesIt() {
        TornPages x = Pages.fourLaid();
        String laid = Pages.picture(x);
        x.turn(0, 7);
        String turned = Pages.picture(x);
        x.removeScrap(1);
        due("undo of removeScrap", x.undo(), 4);
        same("before removeScrap", Pages.picture(x), turned);
        due("undo of turn", x.undo(), 3);
        same("before turn", Pages.picture(x), laid);
        due("states", x.count(10), 3);
        due("an undo is not undone", x.undo(), 2);
        same("before the last lay", Pages.laid(x), "0 1 2 .");
    }

    @Says(in = "Promise 8", words = "Returns the number of states that are left in the history")
    static void p08ReturnsTheStatesLeft() {
        for (int changes = 1; changes <= 7; changes++) {
            TornPages x = new TornPages();
            for (int change = 0; change < changes; change++) {
                x.addScrap(0, 0, 0, 0, 0);
            }
            for (int left = Math.min(changes, 5) - 1; left >= 0; left--) {
                due("undo", x.undo(), left);
                due("states", x.count(10), left);
            }
            due("undo of none", x.undo(), NOT_POSSIBLE);
            due("scraps", x.count(0), Math.max(changes - 5, 0));
        }
    }

    @Says(in = "Promise 8", words = "NOT_POSSIBLE if it is empty.")
    static void p08NotPossibleIfEmpty() {
        TornPages x = new TornPages();
        due("at once", x.undo(), NOT_POSSIBLE);
        x.type('7');
        x.clearText();
        due("after calls that are no changes", x.undo(), NOT_POSSIBLE);
        x.reset(0, 0);
        x.removeScrap(0);
        x.add();
        due("after refused ones", x.undo(), NOT_POSSIBLE);
        x.reset(2, 2);
        due("after a change", x.undo(), 0);
        due("and no more", x.undo(), NOT_POSSIBLE);
        due("states", x.count(10), 0);
        due("width", x.count(2), 4);
    }

    // ---- Promise 9: count

    @Says(in = "Promise 9", words = "INVALID_ARGUMENT if what is out of range.")
    static void p09WhatOutOfRange() {
        int[] refused = {-1, 12, 13, -2, MIN, MAX, 256};
        for (int what : refused) {
            due("count(" + what + ") of a new one", new TornPages().count(what), INVALID);
            due("count(" + what + ") of a full one", Pages.full(4, 3).count(what), INVALID);
        }
    }

    @Says(in = "Promise 9", words = "0: scraps; 1: scraps on the page; 2: the width; 3: the height; "
            + "4: groups; 5: seams between two scraps; 6: seams that fit; 7: edges at the border that "
            + "fit; 8: those of scraps at the border that do not; 9: empty places; 10: states in the "
            + "history; 11: the length of the text")
    static void p09NumbersOfFullPages() {
        same("4 by 3", Pages.counts(Pages.full(4, 3)), "12 12 4 3 1 17 17 14 0 0");
        same("3 by 4", Pages.counts(Pages.full(3, 4)), "12 12 3 4 1 17 17 14 0 0");
        same("6 by 2", Pages.counts(Pages.full(6, 2)), "12 12 6 2 1 16 16 16 0 0");
        same("2 by 6", Pages.counts(Pages.full(2, 6)), "12 12 2 6 1 16 16 16 0 0");
        same("6 by 1", Pages.counts(Pages.full(6, 1)), "6 6 6 1 1 5 5 14 0 0");
        same("1 by 6", Pages.counts(Pages.full(1, 6)), "6 6 1 6 1 5 5 14 0 0");
        same("1 by 1", Pages.counts(Pages.full(1, 1)), "1 1 1 1 1 0 0 4 0 0");
    }

    @Says(in = "Promise 9", words = "7: edges at the border that fit; 8: those of scraps at the border "
            + "that do not")
    static void p09NumbersOfPagesWhereNothingFits() {
        TornPages x = Pages.alike(4, 3, 12, 0);
        same("all beside", Pages.counts(x), "12 0 4 3 0 0 0 0 0 12");
        for (int scrap = 0; scrap < 12; scrap++) {
            x.force(scrap, scrap, 0);
        }
        same("all laid", Pages.counts(x), "12 12 4 3 12 17 0 0 14 0");
        TornPages y = Pages.alike(4, 3, 12, -1);
        for (int scrap = 0; scrap < 12; scrap++) {
            y.force(scrap, scrap, 0);
        }
        same("all straight", Pages.counts(y), "12 12 4 3 12 17 0 14 0 0");
        TornPages z = Pages.alike(1, 1, 1, 999);
        z.force(0, 0, 0);
        same("1 by 1", Pages.counts(z), "1 1 1 1 1 0 0 0 4 0");
    }

    @Says(in = "Promise 9", words = "5: seams between two scraps; 6: seams that fit")
    static void p09SeamsNeedTwoScraps() {
        TornPages x = Pages.alike(6, 6, 12, 0);
        same("an empty page", Pages.counts(x), "12 0 6 6 0 0 0 0 0 36");
        int[] apart = {7, 9, 11, 14, 16, 19, 21, 23, 26, 28};
        for (int scrap = 0; scrap < apart.length; scrap++) {
            x.force(scrap, apart[scrap], 0);
        }
        same("at corners alone", Pages.counts(x), "12 10 6 6 10 0 0 0 2 26");
        x.force(10, 15, 0);
        same("one between four", Pages.counts(x), "12 11 6 6 11 4 0 0 2 25");
    }

    @Says(in = "Promise 9", words = "9: empty places")
    static void p09EmptyPlaces() {
        TornPages x = Pages.alike(6, 6, 12, 0);
        due("all", x.count(9), 36);
        for (int scrap = 0; scrap < 12; scrap++) {
            x.force(scrap, 35 - scrap, 0);
            due("empty", x.count(9), 35 - scrap);
        }
        x.reset(1, 1);
        due("one", x.count(9), 1);
        x.force(0, 0, 0);
        due("none", x.count(9), 0);
    }

    @Says(in = "Promise 9", words = "10: states in the history")
    static void p09States() {
        TornPages x = new TornPages();
        for (int change = 0; change <= 7; change++) {
            due("states", x.count(10), Math.min(change, 5));
            x.fill();
        }
        for (int left = 4; left >= 0; left--) {
            x.undo();
            due("states", x.count(10), left);
        }
    }

    @Says(in = "Promise 9", words = "11: the length of the text")
    static void p09LengthOfTheText() {
        TornPages x = new TornPages();
        for (int length = 0; length <= 60; length++) {
            due("length", x.count(11), length);
            x.type(32 + length);
        }
        due("no more", x.count(11), 60);
        x.clearText();
        due("none", x.count(11), 0);
    }
}
