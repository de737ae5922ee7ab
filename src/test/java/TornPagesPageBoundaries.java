import java.io.IOException;

/** A test for each sentence of the promises 10 to 20 that names a boundary. */
public final class TornPagesPageBoundaries extends Sentences {

    public static void main(String[] args) throws IOException {
        run(TornPagesPageBoundaries.class, "Promise 10", "Promise 11", "Promise 12", "Promise 13",
                "Promise 14", "Promise 15", "Promise 16", "Promise 17", "Promise 18", "Promise 19",
                "Promise 20");
    }

    // ---- Promise 10: lay

    @Says(in = "Promise 10", words = "`scrap`: number of the scrap")
    static void p10ScrapNumbers() {
        TornPages x = Pages.alike(4, 4, 12, -1);
        int[] refused = {-1, 12, 13, MIN, MAX};
        for (int scrap : refused) {
            due("lay(" + scrap + ", 0, 0)", x.lay(scrap, 0, 0), INVALID);
        }
        due("the last", x.lay(11, 0, 0), 0);
        due("it lies there", x.at(0), 11);
    }

    @Says(in = "Promise 10", words = "`place`: a place")
    static void p10Places() {
        TornPages x = Pages.alike(3, 2, 2, -1);
        int[] refused = {-1, 6, 7, 35, MIN, MAX};
        for (int place : refused) {
            due("lay(0, " + place + ", 0)", x.lay(0, place, 0), INVALID);
        }
        due("the last", x.lay(0, 5, 0), 0);
        due("the first", x.lay(1, 0, 0), 0);
    }

    @Says(in = "Promise 10", words = "`orientation`: 0 to 7")
    static void p10Orientations() {
        TornPages x = Pages.alike(4, 4, 8, -1);
        int[] refused = {-1, 8, 9, MIN, MAX};
        for (int orientation : refused) {
            due("lay(0, 0, " + orientation + ")", x.lay(0, 0, orientation), INVALID);
        }
        int[] places = {0, 2, 5, 7, 8, 10, 13, 15};
        for (int orientation = 0; orientation < 8; orientation++) {
            due("lay", x.lay(orientation, places[orientation], orientation), 0);
            due("orientation", x.scrap(orientation, 1), orientation);
        }
    }

    @Says(in = "Promise 10", words = "Returns how many seams it has")
    static void p10ReturnsHowManySeams() {
        for (int set = 0; set < 16; set++) {
            TornPages x = Pages.cross();
            for (int scrap = 1; scrap <= 4; scrap++) {
                if ((set >> (scrap - 1) & 1) == 1) {
                    due("a neighbour", x.lay(scrap, Pages.CROSS[scrap], 0), 0);
                }
            }
            due("the middle", x.lay(0, 4, 0), Integer.bitCount(set));
        }
    }

    @Says(in = "Promise 10", words = "Returns how many seams it has")
    static void p10BorderEdgesAreNoSeams() {
        TornPages x = Pages.full(3, 3);
        int[] seams = {0, 1, 1, 1, 2, 2, 1, 2, 2};
        for (int scrap = 8; scrap >= 0; scrap--) {
            x.lift(scrap);
        }
        for (int scrap = 0; scrap < 9; scrap++) {
            due("lay(" + scrap + ", " + scrap + ", 0)", x.lay(scrap, scrap, 0), seams[scrap]);
        }
        due("1 by 1", Pages.alike(1, 1, 1, -1).lay(0, 0, 0), 0);
    }

    @Says(in = "Promise 10", words = "NOT_POSSIBLE if it lies on the page")
    static void p10NotPossibleIfItLies() {
        TornPages x = Pages.alike(4, 4, 1, -1);
        x.lay(0, 5, 2);
        for (int place = 0; place < 16; place++) {
            due("lay(0, " + place + ", 2)", x.lay(0, place, 2), NOT_POSSIBLE);
        }
        due("otherwise turned", x.lay(0, 5, 3), NOT_POSSIBLE);
        due("it still lies there", x.scrap(0, 2), 5);
        due("orientation", x.scrap(0, 1), 2);
        x.lift(0);
        due("lifted", x.lay(0, 5, 3), 0);
    }

    @Says(in = "Promise 10", words = "a scrap lies there")
    static void p10NotPossibleIfAScrapLiesThere() {
        TornPages x = Pages.alike(4, 4, 2, -1);
        x.lay(0, 5, 0);
        due("taken", x.lay(1, 5, 0), NOT_POSSIBLE);
        due("at", x.at(5), 0);
        x.lift(0);
        due("empty again", x.lay(1, 5, 0), 0);
    }

    @Says(in = "Promise 10", words = "or it can not be laid so.")
    static void p10NotPossibleIfItCanNotBeLaidSo() {
        TornPages x = Pages.fourScraps();
        int[][] corners = {{0, 7}, {1, 4}, {3, 6}, {2, 5}};
        for (int place = 0; place < 4; place++) {
            for (int orientation = 0; orientation < 8; orientation++) {
                boolean fits = orientation == corners[place][0] || orientation == corners[place][1];
                due("lay(0, " + place + ", " + orientation + ")", x.lay(0, place, orientation),
                        fits ? 0 : NOT_POSSIBLE);
                due("on the page", x.count(1), fits ? 1 : 0);
                x.lift(0);
            }
        }
    }

    @Says(in = "Promise 10", words = "or it can not be laid so.")
    static void p10NotPossibleWithAnotherLine() {
        TornPages x = Pages.withScraps(2, 1, "-/0,123/4,-/0,-/0;0", "-/0,-/0,-/0,876/5;0",
                "-/0,-/0,-/0,876/0;0", "-/0,-/0,-/0,876/4;0", "-/0,-/0,-/0,875/4;0");
        x.lay(0, 0, 0);
        due("the line 5", x.lay(1, 1, 0), NOT_POSSIBLE);
        due("no line", x.lay(2, 1, 0), NOT_POSSIBLE);
        due("another profile", x.lay(4, 1, 0), NOT_POSSIBLE);
        due("the line 4", x.lay(3, 1, 0), 1);
    }

    // ---- Promise 11: force

    @Says(in = "Promise 11", words = "`scrap`: number of the scrap")
    static void p11ScrapNumbers() {
        TornPages x = Pages.alike(4, 4, 12, 0);
        int[] refused = {-1, 12, 13, MIN, MAX};
        for (int scrap : refused) {
            due("force(" + scrap + ", 5, 0)", x.force(scrap, 5, 0), INVALID);
        }
        due("the last", x.force(11, 5, 0), 0);
        due("it lies there", x.at(5), 11);
    }

    @Says(in = "Promise 11", words = "`place`: a place")
    static void p11Places() {
        TornPages x = Pages.alike(6, 6, 2, 0);
        int[] refused = {-1, 36, 37, MIN, MAX};
        for (int place : refused) {
            due("force(0, " + place + ", 0)", x.force(0, place, 0), INVALID);
        }
        due("the last", x.force(0, 35, 0), 2);
        due("the first", x.force(1, 0, 0), 2);
        x.reset(2, 3);
        due("6 of 2 by 3", x.force(0, 6, 0), INVALID);
        due("5 of 2 by 3", x.force(0, 5, 0), 2);
    }

    @Says(in = "Promise 11", words = "`orientation`: 0 to 7")
    static void p11Orientations() {
        TornPages x = Pages.alike(3, 3, 1, 0);
        int[] refused = {-1, 8, 9, MIN, MAX};
        for (int orientation : refused) {
            due("force(0, 4, " + orientation + ")", x.force(0, 4, orientation), INVALID);
        }
        due("the last", x.force(0, 4, 7), 0);
        due("orientation", x.scrap(0, 1), 7);
        x.lift(0);
        due("the first", x.force(0, 4, 0), 0);
    }

    @Says(in = "Promise 11", words = "Returns how many of its seams and border edges do not fit")
    static void p11ReturnsMisfitsFrom0To4() {
        for (int set = 0; set < 16; set++) {
            TornPages x = Pages.cross();
            for (int scrap = 1; scrap <= 4; scrap++) {
                boolean wrong = (set >> (scrap - 1) & 1) == 1;
                x.force(scrap, Pages.CROSS[scrap], wrong ? 2 : 0);
            }
            due("the middle", x.force(0, 4, 0), Integer.bitCount(set));
        }
        for (int straight = 0; straight < 16; straight++) {
            TornPages x = new TornPages();
            x.reset(1, 1);
            x.addScrap((straight & 1) - 1, (straight >> 1 & 1) - 1, (straight >> 2 & 1) - 1,
                    (straight >> 3 & 1) - 1, 0);
            due("at the border", x.force(0, 0, 0), Integer.bitCount(straight));
        }
    }

    @Says(in = "Promise 11", words = "Returns how many of its seams and border edges do not fit")
    static void p11CountsItsOwnMisfitsAlone() {
        TornPages x = Pages.alike(4, 4, 2, 0);
        due("at the border", x.force(0, 0, 0), 2);
        due("far from it", x.force(1, 10, 0), 0);
        due("all there are", x.count(8), 2);
    }

    @Says(in = "Promise 11", words = "Lays a scrap, whether its seams and edges fit or not.")
    static void p11WhetherTheyFitOrNot() {
        TornPages x = Pages.fourScraps();
        for (int place = 0; place < 4; place++) {
            for (int orientation = 0; orientation < 8; orientation++) {
                due("is no error", Math.min(x.force(0, place, orientation), -1000), -1000);
                due("at", x.at(place), 0);
                due("orientation", x.scrap(0, 1), orientation);
                x.lift(0);
            }
        }
    }

    @Says(in = "Promise 11", words = "NOT_POSSIBLE if it lies on the page")
    static void p11NotPossibleIfItLies() {
        TornPages x = Pages.alike(4, 4, 1, 0);
        x.force(0, 5, 2);
        for (int place = 0; place < 16; place++) {
            due("force(0, " + place + ", 2)", x.force(0, place, 2), NOT_POSSIBLE);
        }
        due("otherwise turned", x.force(0, 5, 3), NOT_POSSIBLE);
        due("it still lies there", x.scrap(0, 2), 5);
        due("orientation", x.scrap(0, 1), 2);
    }

    @Says(in = "Promise 11", words = "or a scrap lies there.")
    static void p11NotPossibleIfAScrapLiesThere() {
        TornPages x = Pages.alike(4, 4, 2, 0);
        x.force(0, 15, 0);
        due("taken", x.force(1, 15, 0), NOT_POSSIBLE);
        due("at", x.at(15), 0);
        x.removeScrap(0);
        due("empty again", x.force(0, 15, 0), 2);
    }

    // ---- Promise 12: lift

    @Says(in = "Promise 12", words = "`scrap`: number of the scrap")
    static void p12ScrapNumbers() {
        TornPages x = Pages.fourLaid();
        int[] refused = {-1, 4, 12, MIN, MAX};
        for (int scrap : refused) {
            due("lift(" + scrap + ")", x.lift(scrap), INVALID);
        }
        due("the first", x.lift(0), 0);
        due("the last", x.lift(3), 3);
        due("without scraps", new TornPages().lift(0), INVALID);
    }

    @Says(in = "Promise 12", words = "Returns the place that it had")
    static void p12ReturnsThePlaceItHad() {
        TornPages x = Pages.alike(6, 6, 12, 0);
        for (int place = 0; place < 36; place++) {
            int scrap = place % 12;
            x.force(scrap, place, place % 8);
            due("lift", x.lift(scrap), place);
            due("at", x.at(place), NOT_FOUND);
            due("place", x.scrap(scrap, 2), NOT_FOUND);
            due("orientation", x.scrap(scrap, 1), 0);
        }
    }

    @Says(in = "Promise 12", words = "Takes a scrap from the page.")
    static void p12TheOthersStay() {
        TornPages x = Pages.fourLaid();
        due("lift", x.lift(2), 2);
        same("the page", Pages.laid(x), "0 1 . 3");
        due("scraps", x.count(0), 4);
        due("it can be laid again", x.lay(2, 2, 0), 2);
    }

    @Says(in = "Promise 12", words = "NOT_POSSIBLE if it lies beside the page.")
    static void p12NotPossibleBesideThePage() {
        TornPages x = Pages.fourScraps();
        due("never laid", x.lift(0), NOT_POSSIBLE);
        x.lay(0, 0, 0);
        x.lift(0);
        due("lifted", x.lift(0), NOT_POSSIBLE);
        x.lay(0, 0, 0);
        x.reset(2, 2);
        due("after reset", x.lift(0), NOT_POSSIBLE);
        x.lay(0, 0, 0);
        x.undo();
        due("after undo", x.lift(0), NOT_POSSIBLE);
    }

    // ---- Promise 13: turn

    @Says(in = "Promise 13", words = "`scrap`: number of the scrap")
    static void p13ScrapNumbers() {
        TornPages x = Pages.fourLaid();
        int[] refused = {-1, 4, 12, MIN, MAX};
        for (int scrap : refused) {
            due("turn(" + scrap + ", 0)", x.turn(scrap, 0), INVALID);
        }
        due("the last", x.turn(3, 1), 3);
    }

    @Says(in = "Promise 13", words = "`orientation`: 0 to 7")
    static void p13Orientations() {
        TornPages x = Pages.fourLaid();
        int[] refused = {-1, 8, 9, MIN, MAX};
        for (int orientation : refused) {
            due("turn(0, " + orientation + ")", x.turn(0, orientation), INVALID);
            due("orientation", x.scrap(0, 1), 0);
        }
        for (int orientation = 7; orientation >= 0; orientation--) {
            due("is no error", Math.min(x.turn(0, orientation), -1000), -1000);
            due("orientation", x.scrap(0, 1), orientation);
            due("place", x.scrap(0, 2), 0);
        }
    }

    @Says(in = "Promise 13", words = "Returns how many of its seams and border edges do not fit")
    static void p13ReturnsMisfits() {
        TornPages x = Pages.fourLaid();
        int[] misfits = {0, 3, 4, 3, 3, 4, 3, 2};
        for (int orientation = 0; orientation < 8; orientation++) {
            due("turn(0, " + orientation + ")", x.turn(0, orientation), misfits[orientation]);
        }
        TornPages y = Pages.alike(3, 3, 1, 0);
        y.force(0, 4, 0);
        due("in the middle", y.turn(0, 5), 0);
        y.lift(0);
        y.force(0, 0, 0);
        due("in a corner", y.turn(0, 5), 2);
        TornPages z = Pages.full(3, 3);
        due("all four", z.turn(4, 2), 4);
        due("none", z.turn(4, 0), 0);
        due("turned over around the other axis", z.turn(4, 7), 0);
    }

    @Says(in = "Promise 13", words = "NOT_POSSIBLE if it lies beside the page.")
    static void p13NotPossibleBesideThePage() {
        TornPages x = Pages.fourScraps();
        for (int orientation = 0; orientation < 8; orientation++) {
            due("never laid", x.turn(0, orientation), NOT_POSSIBLE);
        }
        x.lay(0, 0, 0);
        x.lift(0);
        due("lifted", x.turn(0, 3), NOT_POSSIBLE);
        due("orientation", x.scrap(0, 1), 0);
        x.lay(0, 0, 0);
        x.reset(2, 2);
        due("after reset", x.turn(0, 3), NOT_POSSIBLE);
    }

    // ---- Promise 14: at

    @Says(in = "Promise 14", words = "`place`: a place")
    static void p14Places() {
        int[][] sizes = {{4, 4}, {1, 1}, {6, 6}, {6, 1}, {1, 6}, {5, 2}};
        for (int[] size : sizes) {
            TornPages x = Pages.alike(size[0], size[1], 1, 0);
            int places = size[0] * size[1];
            due("the first", x.at(0), NOT_FOUND);
            due("the last", x.at(places - 1), NOT_FOUND);
            due("the one behind", x.at(places), INVALID);
            due("-1", x.at(-1), INVALID);
            due("36", x.at(36), INVALID);
            due("the lowest number", x.at(MIN), INVALID);
            due("the highest number", x.at(MAX), INVALID);
            x.force(0, places - 1, 0);
            due("the last with a scrap", x.at(places - 1), 0);
        }
    }

    @Says(in = "Promise 14", words = "Returns the scrap; INVALID_ARGUMENT; NOT_FOUND if the place is "
            + "empty.")
    static void p14NotFoundIfEmpty() {
        TornPages x = Pages.fourLaid();
        same("full", Pages.laid(x), "0 1 2 3");
        x.lift(1);
        due("lifted", x.at(1), NOT_FOUND);
        x.removeScrap(0);
        due("removed", x.at(0), NOT_FOUND);
        due("renumbered", x.at(2), 1);
        x.undo();
        due("not removed", x.at(0), 0);
        x.reset(2, 2);
        same("after reset", Pages.laid(x), ". . . .");
    }

    // ---- Promise 15: reason

    @Says(in = "Promise 15", words = "`place`: a place")
    static void p15Places() {
        TornPages x = Pages.fourLaid();
        int[] refused = {-1, 4, 5, 36, MIN, MAX};
        for (int place : refused) {
            for (int edge = 0; edge < 4; edge++) {
                due("reason(" + place + ", " + edge + ")", x.reason(place, edge), INVALID);
            }
        }
        due("the last", x.reason(3, 3), 0);
    }

    @Says(in = "Promise 15", words = "`edge`: 0 to 3")
    static void p15Edges() {
        TornPages x = Pages.fourLaid();
        int[] refused = {-1, 4, 5, MIN, MAX};
        for (int edge : refused) {
            for (int place = 0; place < 4; place++) {
                due("reason(" + place + ", " + edge + ")", x.reason(place, edge), INVALID);
            }
        }
        for (int edge = 0; edge < 4; edge++) {
            due("reason(0, " + edge + ")", x.reason(0, edge), 0);
        }
    }

    @Says(in = "Promise 15", words = "NOT_FOUND if the place is empty")
    static void p15NotFoundIfThePlaceIsEmpty() {
        TornPages x = Pages.full(3, 3);
        x.lift(4);
        x.lift(0);
        for (int edge = 0; edge < 4; edge++) {
            due("between others", x.reason(4, edge), NOT_FOUND);
            due("at the border", x.reason(0, edge), NOT_FOUND);
        }
    }

    @Says(in = "Promise 15", words = "or the place behind the edge is.")
    static void p15NotFoundIfThePlaceBehindIsEmpty() {
        TornPages x = Pages.full(3, 3);
        x.lift(4);
        due("below", x.reason(1, 2), NOT_FOUND);
        due("right", x.reason(3, 1), NOT_FOUND);
        due("left", x.reason(5, 3), NOT_FOUND);
        due("above", x.reason(7, 0), NOT_FOUND);
        due("beside it", x.reason(1, 1), 0);
        TornPages y = Pages.alike(3, 3, 1, -1);
        y.force(0, 4, 0);
        for (int edge = 0; edge < 4; edge++) {
            due("alone", y.reason(4, edge), NOT_FOUND);
        }
    }

    @Says(in = "Promise 15", words = "Returns the reason, 0 if it fits")
    static void p15AtTheBorderThereIsAReason() {
        TornPages x = Pages.alike(6, 6, 1, 0);
        x.addScrap(-1, -1, -1, -1, 0);
        int[][] corners = {{0, 0, 3}, {5, 0, 1}, {30, 2, 3}, {35, 2, 1}};
        for (int scrap = 0; scrap < 2; scrap++) {
            for (int[] corner : corners) {
                x.force(scrap, corner[0], 0);
                for (int edge = 0; edge < 4; edge++) {
                    boolean border = edge == corner[1] || edge == corner[2];
                    due("reason(" + corner[0] + ", " + edge + ")", x.reason(corner[0], edge),
                            !border ? NOT_FOUND : scrap == 0 ? 4 : 0);
                }
                x.lift(scrap);
            }
        }
    }

    // ---- Promise 16: ways

    @Says(in = "Promise 16", words = "`scrap`: number of the scrap")
    static void p16ScrapNumbers() {
        TornPages x = Pages.alike(4, 4, 12, -1);
        int[] refused = {-1, 12, MIN, MAX};
        for (int scrap : refused) {
            due("ways(" + scrap + ", 0)", x.ways(scrap, 0), INVALID);
        }
        due("the last", x.ways(11, 0), 8);
    }

    @Says(in = "Promise 16", words = "`place`: a place")
    static void p16Places() {
        TornPages x = Pages.alike(6, 2, 1, -1);
        int[] refused = {-1, 12, 13, 36, MIN, MAX};
        for (int place : refused) {
            due("ways(0, " + place + ")", x.ways(0, place), INVALID);
        }
        due("the last", x.ways(0, 11), 8);
    }

    @Says(in = "Promise 16", words = "Counts the orientations in which a scrap could be laid at a place")
    static void p16FromNoneToAllEight() {
        TornPages x = Pages.withScraps(2, 1, "-/0,123/0,-/0,-/0;0", "-/0,-/0,-/0,876/0;0",
                "-/0,-/0,-/0,000/0;0", "-/0,-/0,-/0,-/0;0", "123/0,123/0,123/0,123/0;0",
                "-/0,-/0,-/0,123/0;1", "-/0,-/0,-/0,555/0;0");
        due("one edge torn", x.ways(0, 0), 2);
        due("all straight", x.ways(3, 1), 8);
        due("none straight", x.ways(4, 0), 0);
        x.lay(0, 0, 0);
        due("not turned", x.ways(1, 1), 1);
        due("another profile", x.ways(2, 1), 0);
        due("straight ones do not fit", x.ways(3, 1), 0);
        x.lift(0);
        x.addScrap(-1, 444, -1, -1, 0);
        x.lay(7, 0, 0);
        due("the same from both ends", x.ways(6, 1), 2);
        TornPages y = Pages.alike(3, 3, 1, 444);
        due("in the middle", y.ways(0, 4), 8);
        y.addScrap(555, 555, 555, 555, 0);
        y.force(0, 1, 0);
        due("in the middle, with a seam", y.ways(1, 4), 8);
    }

    @Says(in = "Promise 16", words = "Counts the orientations in which a scrap could be laid at a place, "
            + "were it beside the page.")
    static void p16WereItBesideThePage() {
        TornPages x = Pages.alike(2, 1, 1, -1);
        x.addScrap(-1, 444, -1, -1, 0);
        due("beside", x.ways(0, 0), 8);
        x.force(0, 0, 3);
        due("where it lies", x.ways(0, 0), 8);
        due("next to where it lies", x.ways(0, 1), 8);
        due("it still lies there", x.scrap(0, 2), 0);
        due("so does its orientation", x.scrap(0, 1), 3);
        due("for another one it does lie there", x.ways(1, 1), 0);
        TornPages y = Pages.fourLaid();
        y.turn(0, 2);
        due("where it does not fit so", y.ways(0, 0), 1);
    }

    @Says(in = "Promise 16", words = "NOT_POSSIBLE if another scrap lies there.")
    static void p16NotPossibleIfAnotherLiesThere() {
        TornPages x = Pages.fourLaid();
        for (int place = 0; place < 4; place++) {
            for (int scrap = 0; scrap < 4; scrap++) {
                due("ways(" + scrap + ", " + place + ")", x.ways(scrap, place),
                        scrap == place ? 1 : NOT_POSSIBLE);
            }
        }
        x.lift(0);
        due("one beside the page", x.ways(0, 1), NOT_POSSIBLE);
        due("an empty place", x.ways(0, 0), 1);
        due("one that does not fit there", x.ways(1, 0), 0);
    }

    // ---- Promise 17: bestFor

    @Says(in = "Promise 17", words = "`scrap`: number of the scrap")
    static void p17ScrapNumbers() {
        TornPages x = Pages.alike(4, 4, 12, -1);
        int[] refused = {-1, 12, 13, MIN, MAX};
        for (int scrap : refused) {
            due("bestFor(" + scrap + ")", x.bestFor(scrap), INVALID);
        }
        due("the last", x.bestFor(11), 0);
        due("without scraps", new TornPages().bestFor(0), INVALID);
    }

    @Says(in = "Promise 17", words = "can be laid with the most seams.")
    static void p17TheMostSeams() {
        TornPages x = Pages.full(3, 3);
        x.lift(4);
        due("four of four", x.bestFor(4), 40);
        x.lift(0);
        due("in the middle rather than in a corner", x.bestFor(4), 40);
        TornPages y = Pages.fourScraps();
        y.lay(3, 3, 0);
        due("one seam rather than the place 0", y.bestFor(1), 10);
        TornPages z = Pages.alike(4, 4, 10, 444);
        z.addScrap(555, 555, 555, 555, 0);
        int[][] forced = {{15, 50}, {1, 50}, {2, 50}, {7, 60}, {8, 60}, {13, 60}, {4, 50}, {10, 60},
            {14, 60}, {9, 50}};
        for (int scrap = 0; scrap < forced.length; scrap++) {
            z.force(scrap, forced[scrap][0], 0);
            due("with one more at " + forced[scrap][0], z.bestFor(10), forced[scrap][1]);
        }
    }

    @Says(in = "Promise 17", words = "Returns 10 times the place plus the orientation")
    static void p17From0To357() {
        TornPages x = Pages.alike(6, 6, 1, -1);
        due("the first place, the first orientation", x.bestFor(0), 0);
        x.addScrap(-1, 123, -1, -1, 0);
        x.addScrap(876, -1, -1, 222, 0);
        x.force(1, 34, 0);
        due("the last place, the last orientation", x.bestFor(2), 357);
        due("it can be laid so", x.lay(2, 35, 7), 1);
    }

    @Says(in = "Promise 17", words = "of several the lowest place, then the lowest orientation")
    static void p17TheLowestPlaceThenTheLowestOrientation() {
        TornPages x = Pages.alike(3, 3, 2, 444);
        x.addScrap(-1, 444, 444, -1, 0);
        x.addScrap(444, 444, -1, -1, 0);
        x.addScrap(444, 444, 444, -1, 0);
        due("the middle alone", x.bestFor(0), 40);
        due("each corner", x.bestFor(2), 0);
        due("each corner, turned", x.bestFor(3), 1);
        due("no corner", x.bestFor(4), 11);
        x.addScrap(555, 555, 555, 555, 0);
        x.force(5, 4, 0);
        due("four places with one seam", x.bestFor(4), 11);
        x.force(0, 1, 0);
        due("three places with one seam", x.bestFor(4), 30);
        x.force(1, 3, 0);
        due("two places with one seam", x.bestFor(4), 52);
        x.turn(5, 0);
        x.lift(0);
        due("the lowest of two again", x.bestFor(4), 11);
    }

    @Says(in = "Promise 17", words = "NOT_POSSIBLE if it lies on the page")
    static void p17NotPossibleIfItLies() {
        TornPages x = Pages.alike(4, 4, 1, -1);
        x.lay(0, 5, 0);
        due("it lies", x.bestFor(0), NOT_POSSIBLE);
        x.lift(0);
        due("lifted", x.bestFor(0), 0);
        x.force(0, 5, 0);
        x.reset(4, 4);
        due("after reset", x.bestFor(0), 0);
    }

    @Says(in = "Promise 17", words = "NOT_FOUND if it can be laid nowhere.")
    static void p17NotFoundIfNowhere() {
        TornPages x = Pages.alike(1, 1, 2, -1);
        x.addScrap(-1, -1, -1, 0, 0);
        due("not straight", x.bestFor(2), NOT_FOUND);
        due("the only place", x.bestFor(1), 0);
        x.lay(0, 0, 0);
        due("a full page", x.bestFor(1), NOT_FOUND);
        x.reset(2, 6);
        x.addScrap(444, 444, 444, 444, 0);
        due("all places at the border", x.bestFor(3), NOT_FOUND);
        x.reset(3, 3);
        due("one place not at the border", x.bestFor(3), 40);
        x.lay(0, 1, 0);
        due("a straight edge at that", x.bestFor(3), NOT_FOUND);
    }

    // ---- Promise 18: fill

    @Says(in = "Promise 18", words = "Returns how many scraps are laid.")
    static void p18ReturnsHowManyAreLaid() {
        due("without scraps", new TornPages().fill(), 0);
        due("none can be laid", Pages.alike(2, 6, 12, 0).fill(), 0);
        due("one of twelve", Pages.alike(1, 1, 12, -1).fill(), 1);
        TornPages x = Pages.full(4, 3);
        due("a full page", x.fill(), 0);
        x.lift(11);
        due("the last one", x.fill(), 1);
        same("the page", Pages.laid(x), "0 1 2 3 4 5 6 7 8 9 10 11");
        x.reset(4, 3);
        int laid = x.fill();
        due("on the page", x.count(1), laid);
        TornPages y = Pages.alike(6, 6, 12, -1);
        due("all twelve, apart", y.fill(), 12);
        due("nothing is left", y.fill(), 0);
        due("seams", y.count(5), 0);
    }

    @Says(in = "Promise 18", words = "of all scraps beside the page the one with the lowest number that "
            + "can be laid")
    static void p18TheLowestThatCanBeLaid() {
        TornPages x = Pages.alike(1, 1, 1, 0);
        x.addScrap(-1, -1, 0, -1, 0);
        x.addScrap(-1, -1, -1, -1, 0);
        x.addScrap(-1, -1, -1, -1, 0);
        due("fill", x.fill(), 1);
        due("the lowest that fits", x.at(0), 2);
        x.removeScrap(2);
        due("fill", x.fill(), 1);
        due("the next one", x.at(0), 2);
    }

    @Says(in = "Promise 18", words = "as bestFor tells, and again.")
    static void p18AsBestForTells() {
        int[][] sizes = {{2, 2}, {3, 3}, {4, 3}, {6, 2}, {1, 6}, {4, 4}};
        for (int[] size : sizes) {
            TornPages filled = Pages.full(Math.min(size[0], 3), Math.min(size[1], 3));
            TornPages laid = Pages.full(Math.min(size[0], 3), Math.min(size[1], 3));
            filled.reset(size[0], size[1]);
            laid.reset(size[0], size[1]);
            int count = 0;
            for (int scrap = 0; scrap < laid.count(0); scrap++) {
                int best = laid.bestFor(scrap);
                if (best >= 0) {
                    laid.lay(scrap, best / 10, best % 10);
                    count++;
                    scrap = -1;
                }
            }
            due("fill", filled.fill(), count);
            same("filled", Pages.picture(filled), Pages.picture(laid));
        }
    }

    @Says(in = "Promise 18", words = "Lays scraps, as long as it is possible")
    static void p18NothingIsPossibleAfterIt() {
        TornPages x = Pages.full(4, 3);
        x.addScrap(0, 0, 0, 0, 0);
        x.reset(6, 6);
        x.force(11, 14, 2);
        x.fill();
        for (int scrap = 0; scrap < 12; scrap++) {
            int best = x.bestFor(scrap);
            due("bestFor(" + scrap + ")", best, x.scrap(scrap, 2) < 0 ? NOT_FOUND : NOT_POSSIBLE);
        }
    }

    // ---- Promise 19: member

    @Says(in = "Promise 19", words = "`index`: 0 for its lowest scrap, and so on")
    static void p19IndexFromTheLowest() {
        TornPages x = Pages.full(4, 3);
        for (int index = 0; index < 12; index++) {
            due("member(0, " + index + ")", x.member(0, index), index);
        }
        TornPages y = new TornPages();
        for (int scrap = 0; scrap < 4; scrap++) {
            y.addScrap(-1, 444, -1, 555, 0);
        }
        y.reset(4, 1);
        int[] places = {2, 0, 3, 1};
        for (int scrap = 0; scrap < 4; scrap++) {
            y.force(scrap, places[scrap], 0);
        }
        for (int index = 0; index < 4; index++) {
            due("however they lie, member(0, " + index + ")", y.member(0, index), index);
        }
    }

    @Says(in = "Promise 19", words = "INVALID_ARGUMENT if there is no such group")
    static void p19NoSuchGroup() {
        due("none lies", Pages.fourScraps().member(0, 0), INVALID);
        due("without scraps", new TornPages().member(0, 0), INVALID);
        TornPages x = Pages.fourLaid();
        due("the only group", x.member(0, 0), 0);
        int[] refused = {-1, 1, 2, MIN, MAX};
        for (int group : refused) {
            due("member(" + group + ", 0)", x.member(group, 0), INVALID);
        }
        x.turn(0, 2);
        due("a second group", x.member(1, 0), 1);
        due("no third", x.member(2, 0), INVALID);
        x.lift(0);
        due("no second anymore", x.member(1, 0), INVALID);
    }

    @Says(in = "Promise 19", words = "or index is negative")
    static void p19NegativeIndex() {
        TornPages x = Pages.fourLaid();
        due("-1", x.member(0, -1), INVALID);
        due("the lowest number", x.member(0, MIN), INVALID);
        due("no such group either", x.member(1, -1), INVALID);
        due("0", x.member(0, 0), 0);
    }

    @Says(in = "Promise 19", words = "NOT_FOUND if there are not so many.")
    static void p19NotSoMany() {
        TornPages x = Pages.fourLaid();
        due("the last", x.member(0, 3), 3);
        due("one more", x.member(0, 4), NOT_FOUND);
        due("12", x.member(0, 12), NOT_FOUND);
        due("the highest number", x.member(0, MAX), NOT_FOUND);
        x.turn(3, 2);
        due("the last but one", x.member(0, 2), 2);
        due("not that of another group", x.member(0, 3), NOT_FOUND);
        due("a group of one", x.member(1, 0), 3);
        due("has no second", x.member(1, 1), NOT_FOUND);
        due("twelve", Pages.full(4, 3).member(0, 12), NOT_FOUND);
    }

    // ---- Promise 20: canFill

    @Says(in = "Promise 20", words = "NOT_POSSIBLE if there are not as many scraps as places")
    static void p20NotAsManyScrapsAsPlaces() {
        int[][] sizes = {{1, 1}, {2, 1}, {1, 2}, {3, 1}, {2, 2}, {5, 1}, {3, 2}, {2, 3}, {6, 1},
            {1, 6}};
        for (int[] size : sizes) {
            int places = size[0] * size[1];
            TornPages x = new TornPages();
            x.reset(size[0], size[1]);
            for (int scraps = 0; scraps <= 12; scraps++) {
                int want = scraps != places ? NOT_POSSIBLE : places == 1 ? 1 : 0;
                due(scraps + " scraps for " + places + " places", x.canFill(), want);
                x.addScrap(-1, -1, -1, -1, 0);
            }
        }
    }

    @Says(in = "Promise 20", words = "or more than 6 places.")
    static void p20MoreThan6Places() {
        int[][] sizes = {{4, 2}, {2, 4}, {3, 3}, {5, 2}, {2, 5}, {4, 3}, {3, 4}, {6, 2}, {2, 6}};
        for (int[] size : sizes) {
            TornPages x = Pages.full(size[0], size[1]);
            due(size[0] + " by " + size[1], x.canFill(), NOT_POSSIBLE);
        }
        due("36 places", Pages.alike(6, 6, 12, -1).canFill(), NOT_POSSIBLE);
    }

    @Says(in = "Promise 20", words = "Returns 1 or 0")
    static void p20UpTo6Places() {
        int[][] sizes = {{1, 1}, {2, 1}, {1, 2}, {3, 1}, {1, 3}, {2, 2}, {5, 1}, {1, 5}, {3, 2},
            {2, 3}, {6, 1}, {1, 6}};
        for (int[] size : sizes) {
            TornPages x = Pages.full(size[0], size[1]);
            due("full, " + size[0] + " by " + size[1], x.canFill(), 1);
            x.reset(size[0], size[1]);
            due("empty, " + size[0] + " by " + size[1], x.canFill(), 1);
            x.removeScrap(0);
            x.addScrap(-1, -1, -1, 321, 0);
            due("one edge wrong, " + size[0] + " by " + size[1], x.canFill(), 0);
        }
    }

    @Says(in = "Promise 20", words = "for each place one scrap")
    static void p20EachScrapOnce() {
        TornPages x = Pages.withScraps(3, 1, "-/0,444/0,-/0,-/0;0", "-/0,444/0,-/0,555/0;0",
                "-/0,444/0,-/0,555/0;0");
        due("two middle ones and one end", x.canFill(), 0);
        x.removeScrap(2);
        Pages.addText(x, "-/0,-/0,-/0,555/0;0");
        due("both ends", x.canFill(), 1);
        TornPages y = Pages.withScraps(2, 1, "-/0,123/0,-/0,-/0;0", "-/0,123/0,-/0,-/0;0");
        due("twice the same end", y.canFill(), 0);
    }

    @Says(in = "Promise 20", words = "for each place one scrap")
    static void p20OfTheScrapsThatThereAre() {
        TornPages x = Pages.withScraps(2, 1, "-/0,123/0,-/0,-/0;0", "-/0,-/0,-/0,877/0;0",
                "-/0,-/0,-/0,876/0;0");
        due("three", x.canFill(), NOT_POSSIBLE);
        x.removeScrap(2);
        due("without the one that fits", x.canFill(), 0);
        x.undo();
        x.removeScrap(1);
        due("without the one that does not", x.canFill(), 1);
        TornPages y = Pages.alike(2, 2, 8, -1);
        y.addScrap(-1, 555, 555, -1, 0);
        y.addScrap(-1, 555, 555, -1, 0);
        y.addScrap(-1, 444, -1, -1, 0);
        y.addScrap(-1, 444, 444, -1, 0);
        for (int scrap = 0; scrap < 8; scrap++) {
            y.removeScrap(0);
        }
        due("the last one only once", y.canFill(), 0);
        y.removeScrap(2);
        y.addScrap(-1, 444, 444, -1, 0);
        due("twice", y.canFill(), 1);
    }

    /** A line on a scrap of the kind 0 beside one of the kind 1: the page can not be turned over. */
    @Says(in = "Promise 20", words = "Tells whether all scraps could fill the page together")
    static void p20InWhateverOrientations() {
        int[] back = {0, 3, 2, 1, 4, 5, 6, 7};
        for (int left = 0; left < 4; left++) {
            TornPages whole = Pages.withScraps(2, 1, "-/0,123/4,-/0,-/0;1", "-/0,-/0,-/0,876/4;1");
            for (int right = 0; right < 8; right++) {
                TornPages x = Pages.withScraps(2, 1, Pages.textOf(whole, 0, back[left], 0),
                        Pages.textOf(whole, 1, back[right], 1));
                due("in the orientations " + left + " and " + right, x.canFill(), 1);
                due("so it is laid left", x.lay(0, 0, left), 0);
                due("so it is laid right", x.lay(1, 1, right), 1);
            }
        }
    }

    @Says(in = "Promise 20", words = "all seams and border edges fitting")
    static void p20SeamsAndBorderEdgesFitting() {
        String[] ends = {"-/0,-/0,-/0,876/4;1", "-/0,-/0,-/0,876/5;1", "-/0,-/0,-/0,875/4;1",
            "000/0,-/0,-/0,876/4;1", "-/0,000/0,-/0,876/4;1", "-/0,-/0,000/0,876/4;1",
            "-/0,-/0,-/0,-/0;1", "876/4,-/0,-/0,-/0;1", "-/0,-/0,-/0,678/4;1"};
        int[] wants = {1, 0, 0, 0, 0, 0, 0, 1, 1};
        for (int end = 0; end < ends.length; end++) {
            TornPages x = Pages.withScraps(2, 1, "-/0,123/4,-/0,-/0;1", ends[end]);
            due("with " + ends[end], x.canFill(), wants[end]);
        }
        TornPages y = Pages.withScraps(2, 1, "-/0,123/4,-/0,-/0;0", "-/0,-/0,-/0,678/4;0");
        due("turned over its line is gone", y.canFill(), 0);
        TornPages z = Pages.withScraps(2, 1, "-/0,123/4,-/0,-/0;0", "-/0,-/0,-/0,678/0;0");
        due("which may be just what fits", z.canFill(), 1);
        TornPages both = Pages.withScraps(2, 1, "-/0,123/4,-/0,-/0;1", "-/0,-/0,-/0,678/0;0");
        due("printed on both sides it stays", both.canFill(), 0);
        TornPages back = Pages.withScraps(2, 1, "-/0,123/4,-/0,-/0;0", "-/0,-/0,-/0,876/5;0");
        due("both backs fit", back.canFill(), 1);
    }

    @Says(in = "Promise 20", words = "from an empty page on.")
    static void p20FromAnEmptyPageOn() {
        TornPages x = Pages.fourScraps();
        x.force(0, 3, 5);
        x.force(1, 0, 2);
        String before = Pages.picture(x);
        due("whatever lies", x.canFill(), 1);
        same("it still lies so", Pages.picture(x), before);
        x.reset(2, 2);
        due("none lies", x.canFill(), 1);
        TornPages y = Pages.full(3, 2);
        due("all lie", y.canFill(), 1);
        y.reset(6, 1);
        due("another page", y.canFill(), 0);
    }
}
