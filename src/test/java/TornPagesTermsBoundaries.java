import java.io.IOException;
import java.util.function.Supplier;
import java.util.function.ToIntFunction;

/** A test for each sentence of the document's sections before the promises that names a boundary. */
public final class TornPagesTermsBoundaries extends Sentences {

    public static void main(String[] args) throws IOException {
        run(TornPagesTermsBoundaries.class, "What it is", "The public face", "Scraps", "Page",
                "Texts", "Changes and errors");
    }

    // ---- What it is

    @Says(in = "What it is", words = "An object is used for at most 512 calls")
    static void usedFor512Changes() {
        TornPages x = new TornPages();
        due("call 1, addScrap", x.addScrap(-1, -1, -1, -1, 0), 0);
        for (int call = 2; call <= 504; call += 2) {
            int place = call / 2 % 16;
            int orientation = call % 8;
            due("call " + call + ", lay", x.lay(0, place, orientation), 0);
            due("call " + (call + 1) + ", lift", x.lift(0), place);
        }
        due("call 506, states", x.count(10), 5);
        for (int left = 4; left >= 0; left--) {
            due("call " + (511 - left) + ", undo", x.undo(), left);
        }
        due("call 512, undo", x.undo(), NOT_POSSIBLE);
    }

    @Says(in = "What it is", words = "An object is used for at most 512 calls")
    static void usedFor512CallsOfTexts() {
        TornPages x = new TornPages();
        int calls = 0;
        while (calls + 62 <= 511) {
            for (int length = 1; length <= 60; length++) {
                due("type", x.type('-'), length);
            }
            due("one too many", x.type('-'), LIMIT);
            due("clearText", x.clearText(), 60);
            calls += 62;
        }
        for (int length = 1; calls < 511; length++, calls++) {
            due("type", x.type('0'), length);
        }
        due("call 512", x.fault(), 3);
    }

    @Says(in = "What it is", words = "An object is used for at most 512 calls")
    static void usedFor512Scraps() {
        TornPages x = new TornPages();
        for (int call = 1; call <= 510; call += 2) {
            due("addScrap", x.addScrap(-1, call, -1, -1, 0), 0);
            due("removeScrap", x.removeScrap(0), 0);
        }
        due("call 511, undo", x.undo(), 4);
        due("call 512, the latest scrap", x.edge(0, 0, 1, 0), 509);
    }

    // ---- The public face

    @Says(in = "The public face", words = "INVALID_ARGUMENT = -1001")
    static void faceInvalidArgument() {
        due("INVALID_ARGUMENT", TornPages.INVALID_ARGUMENT, -1001);
        due("as answered", new TornPages().at(-1), TornPages.INVALID_ARGUMENT);
    }

    @Says(in = "The public face", words = "NOT_POSSIBLE = -1002")
    static void faceNotPossible() {
        due("NOT_POSSIBLE", TornPages.NOT_POSSIBLE, -1002);
        due("as answered", new TornPages().undo(), TornPages.NOT_POSSIBLE);
    }

    @Says(in = "The public face", words = "LIMIT_REACHED = -1003")
    static void faceLimitReached() {
        due("LIMIT_REACHED", TornPages.LIMIT_REACHED, -1003);
        due("as answered", Pages.alike(1, 1, 12, 0).addScrap(0, 0, 0, 0, 0),
                TornPages.LIMIT_REACHED);
    }

    @Says(in = "The public face", words = "NOT_FOUND = -1004")
    static void faceNotFound() {
        due("NOT_FOUND", TornPages.NOT_FOUND, -1004);
        due("as answered", new TornPages().at(0), TornPages.NOT_FOUND);
    }

    // ---- Scraps

    @Says(in = "Scraps", words = "There are at most 12 scraps")
    static void scrapsAtMost12HoweverAdded() {
        TornPages x = Pages.alike(4, 4, 11, -1);
        due("the 12th, by a text", Pages.addText(x, "-/0,-/0,-/0,-/0;0"), 11);
        due("a 13th, by a text", x.add(), LIMIT);
        due("a 13th, by numbers", x.addScrap(-1, -1, -1, -1, 0), LIMIT);
        due("scraps", x.count(0), 12);
    }

    @Says(in = "Scraps", words = "There are at most 12 scraps")
    static void scrapsAtMost12AndOneRemoved() {
        TornPages x = Pages.alike(4, 4, 12, -1);
        x.removeScrap(11);
        due("there is room for a 12th", x.addScrap(1, 2, 3, 4, 1), 11);
        due("but not for a 13th", x.addScrap(1, 2, 3, 4, 1), LIMIT);
        x.undo();
        due("nor less after an undo", x.addScrap(1, 2, 3, 4, 1), 11);
    }

    @Says(in = "Scraps", words = "numbered from 0.")
    static void scrapsNumberedFrom0() {
        TornPages x = new TornPages();
        for (int scrap = 0; scrap < 12; scrap++) {
            due("not yet", x.scrap(scrap, 0), INVALID);
            due("the number", x.addScrap(scrap, -1, -1, -1, scrap % 2), scrap);
            due("its top", x.edge(scrap, 0, 0, 0), scrap);
            due("its kind", x.scrap(scrap, 0), scrap % 2);
        }
        due("scrap 12", x.scrap(12, 0), INVALID);
        due("scrap -1", x.scrap(-1, 0), INVALID);
    }

    @Says(in = "Scraps", words = "A scrap has four edges: 0 top, 1 right, 2 bottom, 3 left.")
    static void scrapsFourEdges() {
        TornPages x = Pages.withScraps(4, 4, "001/5,002/6,003/7,004/8;0");
        same("profiles", Pages.profiles(x, 0, 0), "1 2 3 4");
        same("lines", Pages.lines(x, 0, 0), "5 6 7 8");
        due("no edge 4", x.edge(0, 0, 4, 0), INVALID);
    }

    @Says(in = "Scraps", words = "a number from 0 to 999, of three digits")
    static void scrapsProfilesOfThreeDigits() {
        TornPages x = new TornPages();
        x.addScrap(0, 999, 7, 70, 0);
        x.addScrap(100, 10, 1, 900, 0);
        same("as told", Pages.profiles(x, 0, 0), "0 999 7 70");
        same("0, 999, 007 and 070 turned over", Pages.profiles(x, 0, 4), "0 70 700 999");
        same("half around", Pages.profiles(x, 0, 2), "700 70 0 999");
        same("100, 010, 001 and 900 half around", Pages.profiles(x, 1, 2), "100 9 1 10");
    }

    @Says(in = "Scraps", words = "or it is straight (-1), as at the border of a page.")
    static void scrapsStraightHoweverTurned() {
        TornPages x = new TornPages();
        x.addScrap(-1, -1, -1, -1, 0);
        x.addScrap(-1, 12, 345, -1, 1);
        for (int orientation = 0; orientation < 8; orientation++) {
            same("all straight", Pages.profiles(x, 0, orientation), "-1 -1 -1 -1");
        }
        same("half around", Pages.profiles(x, 1, 2), "543 -1 -1 210");
        same("turned over", Pages.profiles(x, 1, 4), "-1 -1 543 12");
    }

    @Says(in = "Scraps", words = "a number from 0 to 9; 0 means that no line of print crosses the edge")
    static void scrapsLinesFrom0To9() {
        TornPages x = Pages.withScraps(2, 1, "-/0,123/0,-/0,-/0;0", "-/0,-/0,-/0,876/0;0",
                "-/0,123/9,-/0,-/0;0", "-/0,-/0,-/0,876/9;0");
        same("no line", Pages.lines(x, 0, 0), "0 0 0 0");
        same("the line 9", Pages.lines(x, 2, 0), "0 9 0 0");
        x.lay(0, 0, 0);
        due("none beside none", x.lay(1, 1, 0), 1);
        x.reset(2, 1);
        x.lay(0, 0, 0);
        due("the line 9 beside none", x.lay(3, 1, 0), NOT_POSSIBLE);
        x.reset(2, 1);
        x.lay(2, 0, 0);
        due("none beside the line 9", x.lay(1, 1, 0), NOT_POSSIBLE);
        due("the line 9 beside the line 9", x.lay(3, 1, 0), 1);
    }

    @Says(in = "Scraps", words = "on both sides (its kind, 0 or 1)")
    static void scrapsKinds() {
        TornPages x = Pages.withScraps(4, 4, "-/0,-/0,-/0,-/0;0", "-/0,-/0,-/0,-/0;1");
        due("kind 0", x.scrap(0, 0), 0);
        due("kind 1", x.scrap(1, 0), 1);
        due("a kind -1", x.addScrap(-1, -1, -1, -1, -1), INVALID);
        due("a kind 2", x.addScrap(-1, -1, -1, -1, 2), INVALID);
        due("a kind 2 as text", Pages.withText("-/0,-/0,-/0,-/0;2").fault(), 16);
    }

    @Says(in = "Scraps", words = "The orientation of a scrap is 0 to 7")
    static void scrapsOrientations0To7() {
        TornPages x = Pages.alike(4, 4, 2, -1);
        for (int orientation = 0; orientation < 8; orientation++) {
            due("force", x.force(0, 5, orientation), 0);
            due("orientation", x.scrap(0, 1), orientation);
            x.lift(0);
        }
        int[] refused = {-1, 8, 9, 15, 16, MIN, MAX};
        for (int orientation : refused) {
            due("edge", x.edge(0, orientation, 0, 0), INVALID);
            due("lay", x.lay(0, 5, orientation), INVALID);
            due("force", x.force(0, 5, orientation), INVALID);
            due("turn", x.turn(0, orientation), INVALID);
        }
    }

    @Says(in = "Scraps", words = "it is turned clockwise by (orientation modulo 4) quarters")
    static void scrapsTurnedByOrientationModulo4() {
        TornPages x = new TornPages();
        x.addScrap(12, 345, 678, 901, 0);
        same("0", Pages.profiles(x, 0, 0), "12 345 678 901");
        same("1", Pages.profiles(x, 0, 1), "109 12 543 678");
        same("2", Pages.profiles(x, 0, 2), "876 109 210 543");
        same("3", Pages.profiles(x, 0, 3), "345 876 901 210");
    }

    @Says(in = "Scraps", words = "from 4 on it is turned over before that")
    static void scrapsTurnedOverFrom4OnBeforeTheQuarters() {
        TornPages x = Pages.withScraps(4, 4, "012/1,345/2,678/3,901/4;1");
        same("3 is not turned over", Pages.edges(x, 0, 3), "345 876 901 210 / 2 3 4 1");
        same("4 is, without a quarter", Pages.edges(x, 0, 4), "210 901 876 345 / 1 4 3 2");
        same("5", Pages.edges(x, 0, 5), "543 210 109 876 / 2 1 4 3");
        same("6", Pages.edges(x, 0, 6), "678 543 12 109 / 3 2 1 4");
        same("7", Pages.edges(x, 0, 7), "901 678 345 12 / 4 3 2 1");
    }

    @Says(in = "Scraps", words = "left and right are exchanged, and the digits of the profiles of the "
            + "edges 0 and 2 come in reverse order")
    static void scrapsTurnedOverExchangesLeftAndRight() {
        TornPages x = new TornPages();
        x.addScrap(123, 123, 123, 123, 0);
        x.addScrap(-1, 123, -1, 456, 0);
        same("digits of 0 and 2 alone", Pages.profiles(x, 0, 4), "321 123 321 123");
        same("left and right", Pages.profiles(x, 1, 4), "-1 456 -1 123");
    }

    @Says(in = "Scraps", words = "A quarter turn clockwise brings the left edge to the top, the top one "
            + "to the right, the right one to the bottom, and the bottom one to the left")
    static void scrapsQuarterTurn() {
        TornPages x = new TornPages();
        x.addScrap(111, 222, 333, 444, 0);
        same("a quarter", Pages.profiles(x, 0, 1), "444 111 222 333");
        same("three quarters", Pages.profiles(x, 0, 3), "222 333 444 111");
    }

    @Says(in = "Scraps", words = "the digits of a profile that comes from the left to the top, or from "
            + "the right to the bottom, come in reverse order")
    static void scrapsQuarterTurnReversesTwoOfFour() {
        TornPages x = new TornPages();
        x.addScrap(123, 123, 123, 123, 0);
        same("a quarter", Pages.profiles(x, 0, 1), "321 123 321 123");
        same("two quarters", Pages.profiles(x, 0, 2), "321 321 321 321");
        same("three quarters", Pages.profiles(x, 0, 3), "123 321 123 321");
    }

    @Says(in = "Scraps", words = "Lines go with their edges.")
    static void scrapsLinesGoWithTheirEdges() {
        TornPages x = Pages.withScraps(4, 4, "000/1,000/2,000/3,-/0;0");
        same("0", Pages.lines(x, 0, 0), "1 2 3 0");
        same("1", Pages.lines(x, 0, 1), "0 1 2 3");
        same("2", Pages.lines(x, 0, 2), "3 0 1 2");
        same("3", Pages.lines(x, 0, 3), "2 3 0 1");
    }

    @Says(in = "Scraps", words = "(Numbers stay: 012 in reverse order is 210.)")
    static void scrapsNumbersStay() {
        TornPages x = new TornPages();
        x.addScrap(12, -1, -1, -1, 0);
        x.addScrap(210, -1, -1, -1, 0);
        x.addScrap(120, -1, -1, -1, 0);
        x.addScrap(101, -1, -1, -1, 0);
        due("012", x.edge(0, 4, 0, 0), 210);
        due("210", x.edge(1, 4, 0, 0), 12);
        due("120", x.edge(2, 4, 0, 0), 21);
        due("101", x.edge(3, 4, 0, 0), 101);
    }

    @Says(in = "Scraps", words = "A scrap of the kind 0 that is turned over shows its back, on which no "
            + "line crosses any edge.")
    static void scrapsBackOfKind0HasNoLines() {
        TornPages x = Pages.withScraps(4, 4, "111/1,222/2,333/3,444/4;0",
                "111/1,222/2,333/3,444/4;1");
        for (int orientation = 0; orientation < 4; orientation++) {
            same("the front", Pages.lines(x, 0, orientation), Pages.lines(x, 1, orientation));
            same("the back", Pages.lines(x, 0, orientation + 4), "0 0 0 0");
        }
        same("a front", Pages.lines(x, 0, 3), "2 3 4 1");
        same("both sides", Pages.lines(x, 1, 4), "1 4 3 2");
        same("the profiles of the back", Pages.profiles(x, 0, 4), "111 444 333 222");
    }

    // ---- Page

    @Says(in = "Page", words = "(1 to 6 each, initially 4 and 4)")
    static void pageInitially4And4() {
        TornPages x = new TornPages();
        due("width", x.count(2), 4);
        due("height", x.count(3), 4);
    }

    @Says(in = "Page", words = "(1 to 6 each, initially 4 and 4)")
    static void pageOfEachSize() {
        for (int width = 0; width <= 7; width++) {
            for (int height = 0; height <= 7; height++) {
                TornPages x = new TornPages();
                boolean told = width >= 1 && width <= 6 && height >= 1 && height <= 6;
                due("reset(" + width + ", " + height + ")", x.reset(width, height),
                        told ? 0 : INVALID);
                due("width", x.count(2), told ? width : 4);
                due("height", x.count(3), told ? height : 4);
                due("places", x.count(9), told ? width * height : 16);
            }
        }
    }

    @Says(in = "Page", words = "the place in the column x and the row y has the number y * width + x")
    static void pagePlacesRowByRow() {
        int[][] sizes = {{4, 4}, {3, 2}, {2, 3}, {6, 1}, {1, 6}, {6, 6}, {1, 1}, {6, 5}, {5, 6}};
        for (int[] size : sizes) {
            TornPages x = Pages.alike(size[0], size[1], 1, 444);
            for (int place = 0; place < size[0] * size[1]; place++) {
                int column = place % size[0];
                int row = place / size[0];
                x.force(0, place, 0);
                int[] border = {row, size[0] - 1 - column, size[1] - 1 - row, column};
                for (int edge = 0; edge < 4; edge++) {
                    due("reason(" + place + ", " + edge + ") on " + size[0] + " by " + size[1],
                            x.reason(place, edge), border[edge] == 0 ? 4 : NOT_FOUND);
                }
                x.lift(0);
            }
        }
    }

    @Says(in = "Page", words = "A scrap lies at a place in an orientation, or beside the page "
            + "(initially).")
    static void pageScrapsInitiallyBeside() {
        TornPages x = Pages.withScraps(2, 2, "-/0,-/0,-/0,-/0;0");
        x.addScrap(-1, -1, -1, -1, 1);
        for (int scrap = 0; scrap < 2; scrap++) {
            due("orientation", x.scrap(scrap, 1), 0);
            due("place", x.scrap(scrap, 2), NOT_FOUND);
        }
        same("the page", Pages.laid(x), ". . . .");
        due("on the page", x.count(1), 0);
    }

    @Says(in = "Page", words = "No two scraps lie at the same place.")
    static void pageNoTwoScrapsAtAPlace() {
        TornPages x = Pages.alike(1, 1, 12, -1);
        due("fill", x.fill(), 1);
        for (int scrap = 1; scrap < 12; scrap++) {
            due("lay", x.lay(scrap, 0, 0), NOT_POSSIBLE);
            due("force", x.force(scrap, 0, 0), NOT_POSSIBLE);
        }
        due("on the page", x.count(1), 1);
        due("at", x.at(0), 0);
    }

    @Says(in = "Page", words = "Two neighbouring places have a seam between them.")
    static void pageSeamsOfNeighboursAlone() {
        int[][] pairs = {{0, 1, 1}, {1, 2, 1}, {0, 3, 1}, {4, 7, 1}, {5, 8, 1}, {2, 3, 0}, {5, 6, 0},
            {0, 2, 0}, {3, 5, 0}, {0, 4, 0}, {2, 4, 0}, {0, 6, 0}, {2, 8, 0}, {0, 8, 0}, {1, 7, 0}};
        for (int[] pair : pairs) {
            TornPages x = Pages.alike(3, 3, 2, 0);
            x.force(0, pair[0], 0);
            x.force(1, pair[1], 0);
            due("seams of " + pair[0] + " and " + pair[1], x.count(5), pair[2]);
        }
    }

    @Says(in = "Page", words = "neither is straight")
    static void pageStraightEdgesDoNotComplete() {
        TornPages x = Pages.alike(4, 4, 2, -1);
        x.addScrap(999, 999, 999, 999, 0);
        x.addScrap(0, 0, 0, 0, 0);
        x.force(0, 5, 0);
        x.force(1, 6, 0);
        due("two straight ones", x.reason(5, 1), 1);
        x.lift(1);
        x.force(2, 6, 0);
        due("straight and 999", x.reason(5, 1), 1);
        x.lift(2);
        x.force(3, 6, 0);
        due("straight and 000", x.reason(5, 1), 1);
    }

    @Says(in = "Page", words = "each digit of the one plus the digit at the same position of the other "
            + "is 9")
    static void pageDigitsAtTheSamePosition() {
        int[][] pairs = {{123, 876, 0}, {0, 999, 0}, {999, 0, 0}, {90, 909, 0}, {909, 90, 0},
            {100, 899, 0}, {9, 990, 0}, {123, 678, 2}, {123, 875, 2}, {123, 877, 2}, {123, 866, 2},
            {123, 886, 2}, {123, 776, 2}, {123, 976, 2}, {0, 0, 2}, {999, 999, 2}, {0, 99, 2},
            {999, 1, 2}, {900, 900, 2}, {555, 555, 2}, {123, 123, 2}};
        for (int[] pair : pairs) {
            TornPages x = new TornPages();
            x.addScrap(-1, pair[0], -1, -1, 0);
            x.addScrap(-1, -1, -1, pair[1], 0);
            x.force(0, 0, 0);
            x.force(1, 1, 0);
            due(pair[0] + " left of " + pair[1], x.reason(0, 1), pair[2]);
            due(pair[1] + " right of " + pair[0], x.reason(1, 3), pair[2]);
        }
        TornPages y = new TornPages();
        y.addScrap(-1, -1, 123, -1, 0);
        y.addScrap(876, -1, -1, -1, 0);
        y.addScrap(678, -1, -1, -1, 0);
        y.force(0, 0, 0);
        y.force(1, 4, 0);
        due("123 above 876", y.reason(0, 2), 0);
        y.lift(1);
        y.force(2, 4, 0);
        due("123 above 678", y.reason(0, 2), 2);
    }

    @Says(in = "Page", words = "and their lines are equal")
    static void pageLinesEqual() {
        for (int mine = 0; mine <= 9; mine++) {
            TornPages x = Pages.withScraps(2, 1, "-/0,444/" + mine + ",-/0,-/0;0");
            x.lay(0, 0, 0);
            for (int theirs = 0; theirs <= 9; theirs++) {
                Pages.addText(x, "-/0,-/0,-/0,555/" + theirs + ";0");
                x.force(1, 1, 0);
                due("line " + mine + " at line " + theirs, x.reason(0, 1), mine == theirs ? 0 : 3);
                x.removeScrap(1);
            }
        }
    }

    @Says(in = "Page", words = "Its reason is 1 if an edge is straight, 2 if the profiles do not "
            + "complete each other, 3 if the lines are different, 0 if it fits")
    static void pageReasonsOfASeam() {
        due("mine is straight", reasonOf("-/0", "123/0"), 1);
        due("the other's is straight", reasonOf("123/0", "-/0"), 1);
        due("profiles", reasonOf("123/7", "875/7"), 2);
        due("lines", reasonOf("123/7", "876/8"), 3);
        due("fits", reasonOf("123/7", "876/7"), 0);
    }

    @Says(in = "Page", words = "the first one of these that applies")
    static void pageTheFirstReasonThatApplies() {
        due("straight, and other lines", reasonOf("-/0", "123/5"), 1);
        due("the other's straight, and other lines", reasonOf("123/5", "-/0"), 1);
        due("both straight", reasonOf("-/0", "-/0"), 1);
        due("straight and 000", reasonOf("-/0", "000/0"), 1);
        due("profiles and lines", reasonOf("123/5", "123/6"), 2);
        due("profiles, no line and a line", reasonOf("000/0", "000/1"), 2);
    }

    /** The reason of the seam between the right edge of one scrap and the left edge of another. */
    private static int reasonOf(String right, String left) {
        TornPages x = Pages.withScraps(2, 1, "-/0," + right + ",-/0,-/0;0",
                "-/0,-/0,-/0," + left + ";0");
        x.force(0, 0, 0);
        x.force(1, 1, 0);
        due("the same reason from both sides", x.reason(1, 3), x.reason(0, 1));
        return x.reason(0, 1);
    }

    @Says(in = "Page", words = "An edge of a scrap at the border of the page fits if it is straight; "
            + "otherwise its reason is 4.")
    static void pageBorderEdges() {
        TornPages x = Pages.withScraps(1, 1, "-/0,-/0,-/0,-/0;0", "000/0,999/0,123/9,001/1;0");
        x.force(0, 0, 0);
        for (int edge = 0; edge < 4; edge++) {
            due("straight", x.reason(0, edge), 0);
        }
        x.lift(0);
        due("all four at the border", x.force(1, 0, 0), 4);
        for (int edge = 0; edge < 4; edge++) {
            due("not straight", x.reason(0, edge), 4);
        }
    }

    @Says(in = "Page", words = "A scrap can be laid at a place if all its seams with scraps that lie "
            + "there, and its edges at the border, fit.")
    static void pageLaidIfAllSeamsFit() {
        String[] middles = {"123/0,234/0,345/0,456/0;0", "124/0,234/0,345/0,456/0;0",
            "123/0,235/0,345/0,456/0;0", "123/0,234/0,346/0,456/0;0", "123/0,234/0,345/0,457/0;0",
            "123/1,234/0,345/0,456/0;0", "123/0,234/2,345/0,456/0;0", "123/0,234/0,345/3,456/0;0",
            "123/0,234/0,345/0,456/4;0", "-/0,234/0,345/0,456/0;0", "123/0,234/0,345/0,-/0;0"};
        for (int index = 0; index < middles.length; index++) {
            TornPages x = Pages.cross();
            for (int scrap = 1; scrap <= 4; scrap++) {
                x.lay(scrap, Pages.CROSS[scrap], 0);
            }
            int scrap = Pages.addText(x, middles[index]);
            due(middles[index], x.lay(scrap, 4, 0), index == 0 ? 4 : NOT_POSSIBLE);
        }
    }

    @Says(in = "Page", words = "A scrap can be laid at a place if all its seams with scraps that lie "
            + "there, and its edges at the border, fit.")
    static void pageLaidIfAllBorderEdgesFit() {
        for (int edge = 0; edge < 4; edge++) {
            TornPages x = new TornPages();
            x.reset(1, 1);
            x.addScrap(edge == 0 ? 0 : -1, edge == 1 ? 0 : -1, edge == 2 ? 0 : -1,
                    edge == 3 ? 0 : -1, 0);
            due("the edge " + edge + " is not straight", x.lay(0, 0, 0), NOT_POSSIBLE);
        }
        TornPages y = Pages.alike(1, 1, 1, -1);
        due("all are straight", y.lay(0, 0, 0), 0);
    }

    @Says(in = "Page", words = "A scrap can be laid at a place if all its seams with scraps that lie "
            + "there, and its edges at the border, fit.")
    static void pageLaidWhateverIsBesideEmptyPlaces() {
        TornPages x = Pages.alike(3, 3, 1, 123);
        x.addScrap(-1, -1, -1, -1, 0);
        due("straight ones in the middle", x.lay(1, 4, 0), 0);
        x.lift(1);
        due("others in the middle", x.lay(0, 4, 0), 0);
    }

    @Says(in = "Page", words = "A group is a set of scraps that lie on the page and are connected by "
            + "seams that fit")
    static void pageGroupsOverFittingSeamsAlone() {
        TornPages x = Pages.full(4, 3);
        due("all are one", x.count(4), 1);
        x.turn(5, 2);
        due("the turned one is alone", x.count(4), 2);
        due("around it the others hold", x.member(0, 10), 11);
        TornPages y = Pages.full(6, 2);
        y.lift(2);
        due("around a gap", y.count(4), 1);
        y.lift(8);
        due("apart", y.count(4), 2);
        due("the first of the right ones", y.member(1, 0), 3);
    }

    @Says(in = "Page", words = "(a scrap without such a seam is a group of its own)")
    static void pageGroupsOfOne() {
        TornPages x = Pages.alike(4, 3, 12, 0);
        for (int scrap = 0; scrap < 12; scrap++) {
            x.force(scrap, scrap, 0);
            due("groups", x.count(4), scrap + 1);
        }
        for (int scrap = 0; scrap < 12; scrap++) {
            due("group of " + scrap, x.scrap(scrap, 3), scrap);
            due("its only one", x.member(scrap, 0), scrap);
            due("no second one", x.member(scrap, 1), NOT_FOUND);
        }
    }

    @Says(in = "Page", words = "Groups are numbered from 0 by their lowest scraps.")
    static void pageGroupsByTheirLowestScraps() {
        TornPages x = new TornPages();
        for (int scrap = 0; scrap < 6; scrap++) {
            x.addScrap(-1, 444, -1, 555, 0);
        }
        x.reset(6, 3);
        x.force(5, 0, 0);
        x.force(1, 1, 0);
        x.force(4, 12, 0);
        x.force(2, 13, 0);
        x.force(3, 9, 0);
        due("the one beside the page has none", x.scrap(0, 3), NOT_FOUND);
        int[] groups = {0, 1, 2, 1, 0};
        for (int scrap = 1; scrap < 6; scrap++) {
            due("group of " + scrap, x.scrap(scrap, 3), groups[scrap - 1]);
        }
        due("groups", x.count(4), 3);
        x.force(0, 16, 0);
        due("a new lowest one", x.scrap(0, 3), 0);
        due("and the next", x.scrap(1, 3), 1);
        due("and the last", x.scrap(3, 3), 3);
    }

    // ---- Texts

    @Says(in = "Texts", words = "There is a text of at most 60 characters, initially empty.")
    static void textsAtMost60InitiallyEmpty() {
        TornPages x = new TornPages();
        due("initially", x.count(11), 0);
        due("initially too short at once", x.fault(), 0);
        for (int length = 1; length <= 60; length++) {
            due("type", x.type('0'), length);
        }
        due("a 61st", x.type('0'), LIMIT);
        due("length", x.count(11), 60);
    }

    @Says(in = "Texts", words = "it consists of the four edges, from the edge 0 on, with \",\" between "
            + "two of them, and then \";\" and the kind (0 or 1)")
    static void textsOfFourEdgesAndAKind() {
        dueFault("-/0,-/0,-/0,-/0;0", NOT_FOUND);
        dueFault("-/0,-/0,-/0,-/0;1", NOT_FOUND);
        dueFault("-/0,-/0,-/0;0", 11);
        dueFault("-/0,-/0,-/0,-/0,-/0;0", 15);
        dueFault("-/0;-/0,-/0,-/0;0", 3);
        dueFault("-/0,-/0;-/0,-/0;0", 7);
        dueFault(",-/0,-/0,-/0,-/0;0", 0);
        dueFault("-/0,,-/0,-/0,-/0;0", 4);
        dueFault("-/0,-/0,-/0,-/0;;0", 16);
        dueFault("-/0,-/0,-/0,-/0;2", 16);
        dueFault("-/0,-/0,-/0,-/0;/", 16);
        dueFault("-/0,-/0,-/0,-/0;-", 16);
        dueFault("-/0,-/0,-/0,-/0;10", 17);
        dueFault("-/0,-/0,-/0,-/0;0;", 17);
    }

    @Says(in = "Texts", words = "an edge is \"-\" or three digits, and then \"/\" and the digit of its "
            + "line")
    static void textsOfAnEdge() {
        dueFault("000/0,999/9,090/9,909/0;0", NOT_FOUND);
        dueFault("/0", 0);
        dueFault("1/0", 1);
        dueFault("12/0", 2);
        dueFault("1234/0", 3);
        dueFault("--/0", 1);
        dueFault("-1/0", 1);
        dueFault("1-/0", 1);
        dueFault("12-/0", 2);
        dueFault(":00/0", 0);
        dueFault("0:0/0", 1);
        dueFault("00:/0", 2);
        dueFault("000:0", 3);
        dueFault("000//", 4);
        dueFault("000/:", 4);
        dueFault("000/-", 4);
        dueFault("000/00", 5);
        dueFault("-/00", 3);
        dueFault("-0", 1);
        dueFault("+12/0", 0);
        dueFault(" -/0", 0);
    }

    @Says(in = "Texts", words = "The fault of the text is the position, from 0, of the first character "
            + "that cannot stand where it stands")
    static void textsFirstWrongCharacter() {
        String good = "012/3,-/0,345/9,999/0;1";
        for (int position = 0; position < good.length(); position++) {
            dueFault(good.substring(0, position) + "~" + good.substring(position + 1), position);
            dueFault(good.substring(0, position) + " " + good.substring(position), position);
        }
        dueFault("~".repeat(60), 0);
        dueFault(good + "~", good.length());
        dueFault(good + "0".repeat(60 - good.length()), good.length());
        dueFault("012/3,~/0,~", 6);
    }

    @Says(in = "Texts", words = "or its length, if it ends too early")
    static void textsThatEndTooEarly() {
        String[] whole = {"012/3,-/0,345/9,999/0;1", "-/0,-/0,-/0,-/0;0",
            "000/0,000/0,000/0,000/0;0"};
        for (String text : whole) {
            for (int length = 0; length < text.length(); length++) {
                dueFault(text.substring(0, length), length);
            }
            dueFault(text, NOT_FOUND);
        }
    }

    @Says(in = "Texts", words = "(A straight edge must have the line 0: another digit cannot stand "
            + "there.)")
    static void textsStraightEdgesHaveTheLine0() {
        for (int edge = 0; edge < 4; edge++) {
            for (int line = 0; line <= 9; line++) {
                StringBuilder text = new StringBuilder("-/0,-/0,-/0,-/0;0");
                text.setCharAt(edge * 4 + 2, (char) ('0' + line));
                dueFault(text.toString(), line == 0 ? NOT_FOUND : edge * 4 + 2);
            }
        }
    }

    private static void dueFault(String text, int want) {
        due("fault of " + text, Pages.withText(text).fault(), want);
        due("add of " + text, Pages.withText(text).add(), want == NOT_FOUND ? 0 : NOT_POSSIBLE);
    }

    // ---- Changes and errors

    @Says(in = "Changes and errors", words = "The changes are the calls of reset, addScrap, add, "
            + "removeScrap, lay, force, lift, turn and fill that return no error.")
    static void changesAreRecorded() {
        dueStates("reset", 1, x -> x.reset(3, 3));
        dueStates("reset to the same size", 1, x -> x.reset(2, 1));
        dueStates("addScrap", 1, x -> x.addScrap(1, 2, 3, 4, 0));
        dueStates("add", 1, x -> x.add());
        dueStates("removeScrap", 1, x -> x.removeScrap(1));
        dueStates("lay", 1, x -> x.lay(1, 1, 0));
        dueStates("force", 1, x -> x.force(1, 1, 1));
        dueStates("lift", 1, x -> x.lift(0));
        dueStates("turn", 1, x -> x.turn(0, 3));
        dueStates("turn to the same orientation", 1, x -> x.turn(0, 0));
        dueStates("fill", 1, x -> x.fill());
        TornPages empty = new TornPages();
        due("fill that lays nothing", empty.fill(), 0);
        due("states after it", empty.count(10), 1);
        due("undo of it", empty.undo(), 0);
    }

    @Says(in = "Changes and errors", words = "The changes are the calls of reset, addScrap, add, "
            + "removeScrap, lay, force, lift, turn and fill that return no error.")
    static void changesAreNoneOfTheOtherCalls() {
        dueStates("scrap", 0, x -> x.scrap(0, 3));
        dueStates("edge", 0, x -> x.edge(0, 0, 0, 0));
        dueStates("count", 0, x -> x.count(4));
        dueStates("at", 0, x -> x.at(0));
        dueStates("reason", 0, x -> x.reason(0, 0));
        dueStates("ways", 0, x -> x.ways(1, 1));
        dueStates("bestFor", 0, x -> x.bestFor(1));
        dueStates("member", 0, x -> x.member(0, 0));
        dueStates("canFill", 0, x -> x.canFill());
        dueStates("type", 0, x -> x.type('0'));
        dueStates("clearText", 0, x -> x.clearText());
        dueStates("fault", 0, x -> x.type('~') - 18 + x.fault() - 17);
        dueStates("undo", -1, x -> x.undo());
    }

    /** Two scraps of which one lies on a page of 2 by 1; four states in the history. */
    private static TornPages halfLaid() {
        TornPages x = new TornPages();
        x.addScrap(-1, 444, -1, -1, 0);
        x.addScrap(-1, -1, -1, 555, 0);
        x.reset(2, 1);
        x.lay(0, 0, 0);
        Pages.write(x, "-/0,-/0,-/0,-/0;0");
        return x;
    }

    private static void dueStates(String call, int more, ToIntFunction<TornPages> change) {
        TornPages x = halfLaid();
        String before = Pages.picture(x);
        int states = x.count(10);
        int answer = change.applyAsInt(x);
        due(call + " is no error", Math.min(answer, -1000), -1000);
        due("states after " + call, x.count(10), states + more);
        for (int undone = 0; undone < more; undone++) {
            x.undo();
        }
        if (more >= 0) {
            same("scraps and page after the undo of " + call, Pages.picture(x), before);
        }
    }

    @Says(in = "Changes and errors", words = "A history of at most 5 states is kept")
    static void historyOfAtMost5States() {
        TornPages x = new TornPages();
        for (int change = 1; change <= 12; change++) {
            x.addScrap(change, 0, 0, 0, 0);
            due("states after " + change, x.count(10), Math.min(change, 5));
        }
        for (int left = 4; left >= 0; left--) {
            due("undo", x.undo(), left);
            due("scraps", x.count(0), 7 + left);
        }
        due("undo of the sixth", x.undo(), NOT_POSSIBLE);
        due("scraps", x.count(0), 7);
    }

    @Says(in = "Changes and errors", words = "if there are 6 states then, the oldest one is dropped")
    static void historyDropsTheOldest() {
        for (int changes = 5; changes <= 17; changes++) {
            TornPages x = Pages.alike(6, 6, 1, 0);
            x.undo();
            x.undo();
            x.addScrap(0, 0, 0, 0, 0);
            x.reset(6, 6);
            for (int change = 1; change <= changes; change++) {
                x.force(0, change, 0);
                x.lift(0);
            }
            x.force(0, 30, 5);
            int[] places = {NOT_FOUND, changes, NOT_FOUND, changes - 1, NOT_FOUND};
            for (int undone = 0; undone < 5; undone++) {
                due("undo", x.undo(), 4 - undone);
                due("place", x.scrap(0, 2), places[undone]);
            }
            due("undo of the dropped one", x.undo(), NOT_POSSIBLE);
        }
    }

    @Says(in = "Changes and errors", words = "if there are 6 states then, the oldest one is dropped")
    static void historyGoesOnAfterUndo() {
        TornPages x = new TornPages();
        for (int change = 1; change <= 7; change++) {
            x.addScrap(change, 0, 0, 0, 0);
        }
        due("undo", x.undo(), 4);
        due("undo", x.undo(), 3);
        due("a change", x.addScrap(50, 0, 0, 0, 0), 5);
        due("states", x.count(10), 4);
        due("a change", x.addScrap(60, 0, 0, 0, 0), 6);
        due("states", x.count(10), 5);
        due("a change that drops one", x.addScrap(70, 0, 0, 0, 0), 7);
        due("states", x.count(10), 5);
        for (int left = 4; left >= 0; left--) {
            due("undo", x.undo(), left);
        }
        due("scraps", x.count(0), 3);
        due("nothing before", x.undo(), NOT_POSSIBLE);
    }

    @Says(in = "Changes and errors", words = "each change records scraps and page before it")
    static void historyOfScrapsAndPageNotOfTheText() {
        TornPages x = Pages.fourLaid();
        String before = Pages.picture(x);
        Pages.write(x, "012/3,-/0,-/0,-/0;1");
        x.removeScrap(0);
        x.clearText();
        x.type('7');
        x.type('8');
        x.undo();
        same("scraps and page", Pages.picture(x), before);
        due("the text stays", x.count(11), 2);
        due("its fault", x.fault(), 2);
        x.reset(1, 5);
        x.undo();
        same("a page of another size", Pages.picture(x), before);
    }

    @Says(in = "Changes and errors", words = "each change records scraps and page before it")
    static void historyOfAllThatAScrapIs() {
        for (int removed = 0; removed < 12; removed++) {
            TornPages x = new TornPages();
            for (int scrap = 0; scrap < 12; scrap++) {
                Pages.addText(x, "-/0,00" + scrap % 10 + "/" + scrap % 10 + ",-/0,-/0;" + scrap / 3 % 2);
                x.force(scrap, scrap + 2, (scrap + 1) % 8);
            }
            x.removeScrap(removed);
            Pages.addText(x, "-/0,-/0,999/9,-/0;" + (1 - removed / 3 % 2));
            x.undo();
            x.undo();
            for (int scrap = 0; scrap < 12; scrap++) {
                due("kind of " + scrap, x.scrap(scrap, 0), scrap / 3 % 2);
                due("orientation of " + scrap, x.scrap(scrap, 1), (scrap + 1) % 8);
                due("place of " + scrap, x.scrap(scrap, 2), scrap + 2);
                due("at", x.at(scrap + 2), scrap);
                due("profile of " + scrap, x.edge(scrap, 0, 1, 0), scrap % 10);
                due("line of " + scrap, x.edge(scrap, 0, 1, 1), scrap % 10);
            }
        }
    }

    @Says(in = "Changes and errors", words = "INVALID_ARGUMENT is returned rather than NOT_POSSIBLE")
    static void errorsInvalidRatherThanNotPossible() {
        TornPages x = Pages.fourLaid();
        x.addScrap(1, 1, 1, 1, 0);
        due("lay: no such scrap, place taken", x.lay(5, 0, 0), INVALID);
        due("lay: no such scrap -1, place taken", x.lay(-1, 0, 0), INVALID);
        due("lay: lies, no such place", x.lay(0, 4, 0), INVALID);
        due("lay: lies, no such place -1", x.lay(0, -1, 0), INVALID);
        due("lay: lies, no such orientation", x.lay(0, 1, 8), INVALID);
        due("lay: taken, no such orientation", x.lay(4, 0, -1), INVALID);
        due("force: no such scrap, place taken", x.force(5, 0, 0), INVALID);
        due("force: lies, no such place", x.force(0, 4, 0), INVALID);
        due("force: lies, no such orientation", x.force(0, 1, 8), INVALID);
        due("force: taken, no such orientation", x.force(4, 0, -1), INVALID);
        due("turn: beside the page, no such orientation", x.turn(4, 8), INVALID);
        due("turn: beside the page, no such orientation", x.turn(4, -1), INVALID);
        due("ways: no such scrap, place taken", x.ways(5, 0), INVALID);
        due("ways: no such scrap -1, place taken", x.ways(-1, 0), INVALID);
        due("all at once", x.lay(MAX, MIN, MAX), INVALID);
    }

    @Says(in = "Changes and errors", words = "NOT_POSSIBLE rather than LIMIT_REACHED")
    static void errorsNotPossibleRatherThanLimit() {
        TornPages x = Pages.alike(4, 4, 12, -1);
        due("an empty text and 12 scraps", x.add(), NOT_POSSIBLE);
        due("a wrong text and 12 scraps", Pages.addText(x, "-/0,-/0,-/0,-/1;0"), NOT_POSSIBLE);
        due("a good one and 12 scraps", Pages.addText(x, "-/0,-/0,-/0,-/0;0"), LIMIT);
    }

    @Says(in = "Changes and errors", words = "If several errors apply to a call, INVALID_ARGUMENT")
    static void errorsInvalidRatherThanLimit() {
        TornPages x = Pages.alike(4, 4, 12, -1);
        due("a good 13th", x.addScrap(-1, -1, -1, -1, 0), LIMIT);
        due("a wrong top", x.addScrap(-2, -1, -1, -1, 0), INVALID);
        due("a wrong right", x.addScrap(-1, 1000, -1, -1, 0), INVALID);
        due("a wrong bottom", x.addScrap(-1, -1, -2, -1, 0), INVALID);
        due("a wrong left", x.addScrap(-1, -1, -1, 1000, 0), INVALID);
        due("a wrong kind", x.addScrap(-1, -1, -1, -1, 2), INVALID);
        Pages.write(x, "0".repeat(60));
        due("a good 61st", x.type('0'), LIMIT);
        due("too low a 61st", x.type(31), INVALID);
        due("too high a 61st", x.type(127), INVALID);
    }

    @Says(in = "Changes and errors", words = "If several errors apply to a call, INVALID_ARGUMENT")
    static void errorsInvalidRatherThanNotFound() {
        TornPages x = Pages.fourScraps();
        x.force(0, 0, 0);
        due("scrap: beside the page", x.scrap(1, 2), NOT_FOUND);
        due("scrap: no such property, beside the page", x.scrap(1, 6), INVALID);
        due("scrap: no such property, beside the page", x.scrap(1, -1), INVALID);
        due("reason: an empty place", x.reason(3, 0), NOT_FOUND);
        due("reason: no such edge, an empty place", x.reason(3, 4), INVALID);
        due("reason: no such edge, an empty place", x.reason(3, -1), INVALID);
        due("member: too high an index", x.member(0, 1), NOT_FOUND);
        due("member: no such group, too high an index", x.member(1, 1), INVALID);
        due("member: no such group, too high an index", x.member(-1, 1), INVALID);
    }

    @Says(in = "Changes and errors", words = "If several errors apply to a call, INVALID_ARGUMENT")
    static void errorsNotPossibleRatherThanNotFound() {
        TornPages x = Pages.alike(1, 1, 2, 0);
        x.force(0, 0, 0);
        due("beside the page, and it fits nowhere", x.bestFor(1), NOT_FOUND);
        due("on the page, and it fits nowhere", x.bestFor(0), NOT_POSSIBLE);
    }

    @Says(in = "Changes and errors", words = "A call that returns an error changes nothing.")
    static void errorsOfScrapsChangeNothing() {
        Supplier<TornPages> four = TornPagesTermsBoundaries::threeLaidAndAText;
        Supplier<TornPages> twelve = TornPagesTermsBoundaries::twelveAndAText;
        changesNothing("reset, width", four, INVALID, x -> x.reset(7, 2));
        changesNothing("reset, height", four, INVALID, x -> x.reset(3, 0));
        changesNothing("addScrap, left", four, INVALID, x -> x.addScrap(1, 2, 3, 1000, 0));
        changesNothing("addScrap, kind", four, INVALID, x -> x.addScrap(1, 2, 3, 4, 2));
        changesNothing("addScrap, a 13th", twelve, LIMIT, x -> x.addScrap(1, 2, 3, 4, 1));
        changesNothing("add, a 13th", twelve, LIMIT, x -> x.add());
        changesNothing("removeScrap", four, INVALID, x -> x.removeScrap(4));
        changesNothing("scrap", four, INVALID, x -> x.scrap(0, 6));
        changesNothing("edge", four, INVALID, x -> x.edge(0, 8, 0, 0));
        changesNothing("count", four, INVALID, x -> x.count(12));
    }

    @Says(in = "Changes and errors", words = "A call that returns an error changes nothing.")
    static void errorsOfAnEmptyHistoryOrAFaultyTextChangeNothing() {
        Supplier<TornPages> faulty = () -> {
            TornPages x = Pages.fourLaid();
            Pages.write(x, "123/4,567/8,");
            return x;
        };
        Supplier<TornPages> noHistory = () -> {
            TornPages x = threeLaidAndAText();
            for (int undone = 0; undone < 5; undone++) {
                x.undo();
            }
            return x;
        };
        Supplier<TornPages> longText = () -> {
            TornPages x = Pages.fourLaid();
            Pages.write(x, "123/4,567/8,-/0,-/0;1" + "~".repeat(39));
            return x;
        };
        changesNothing("add", faulty, NOT_POSSIBLE, x -> x.add());
        changesNothing("undo", noHistory, NOT_POSSIBLE, x -> x.undo());
        changesNothing("type, a 61st", longText, LIMIT, x -> x.type('0'));
        changesNothing("type, a sign", faulty, INVALID, x -> x.type(127));
    }

    @Says(in = "Changes and errors", words = "A call that returns an error changes nothing.")
    static void errorsOfThePageChangeNothing() {
        Supplier<TornPages> four = TornPagesTermsBoundaries::threeLaidAndAText;
        changesNothing("lay, place", four, INVALID, x -> x.lay(3, 4, 0));
        changesNothing("lay, orientation", four, INVALID, x -> x.lay(3, 3, 8));
        changesNothing("lay, it lies", four, NOT_POSSIBLE, x -> x.lay(0, 3, 0));
        changesNothing("lay, taken", four, NOT_POSSIBLE, x -> x.lay(3, 1, 0));
        changesNothing("lay, it does not fit", four, NOT_POSSIBLE, x -> x.lay(3, 3, 1));
        changesNothing("force, scrap", four, INVALID, x -> x.force(4, 3, 0));
        changesNothing("force, it lies", four, NOT_POSSIBLE, x -> x.force(0, 3, 0));
        changesNothing("force, taken", four, NOT_POSSIBLE, x -> x.force(3, 1, 0));
        changesNothing("lift, scrap", four, INVALID, x -> x.lift(4));
        changesNothing("lift, beside", four, NOT_POSSIBLE, x -> x.lift(3));
        changesNothing("turn, orientation", four, INVALID, x -> x.turn(0, 8));
        changesNothing("turn, beside", four, NOT_POSSIBLE, x -> x.turn(3, 5));
        changesNothing("at", four, NOT_FOUND, x -> x.at(3));
        changesNothing("reason", four, NOT_FOUND, x -> x.reason(1, 2));
        changesNothing("ways", four, NOT_POSSIBLE, x -> x.ways(3, 1));
        changesNothing("bestFor", four, NOT_POSSIBLE, x -> x.bestFor(0));
        changesNothing("member", four, NOT_FOUND, x -> x.member(0, 3));
        changesNothing("canFill", () -> Pages.full(3, 3), NOT_POSSIBLE, x -> x.canFill());
    }

    private static TornPages threeLaidAndAText() {
        TornPages x = Pages.fourLaid();
        x.lift(3);
        Pages.write(x, "012/3,-/0,345/9,999/0;1");
        return x;
    }

    private static TornPages twelveAndAText() {
        TornPages x = Pages.alike(2, 2, 12, -1);
        x.fill();
        Pages.write(x, "012/3,-/0,345/9,999/0;1");
        return x;
    }

    private static void changesNothing(String call, Supplier<TornPages> make, int want,
            ToIntFunction<TornPages> refused) {
        TornPages x = make.get();
        due(call, refused.applyAsInt(x), want);
        same("what there is after " + call, Pages.story(x), Pages.story(make.get()));
    }

    @Says(in = "Changes and errors", words = "If there is no scrap, place or group with a certain "
            + "number, this is INVALID_ARGUMENT.")
    static void errorsNoSuchScrap() {
        dueNoSuchScrap(new TornPages(), 0);
        dueNoSuchScrap(Pages.fourScraps(), 4);
        dueNoSuchScrap(Pages.alike(6, 6, 12, -1), 12);
        TornPages x = Pages.fourLaid();
        x.removeScrap(3);
        dueNoSuchScrap(x, 3);
    }

    private static void dueNoSuchScrap(TornPages x, int first) {
        int[] numbers = {first, first + 1, -1, MIN, MAX};
        for (int scrap : numbers) {
            due("removeScrap(" + scrap + ")", x.removeScrap(scrap), INVALID);
            due("scrap(" + scrap + ", 0)", x.scrap(scrap, 0), INVALID);
            due("edge(" + scrap + ", 0, 0, 0)", x.edge(scrap, 0, 0, 0), INVALID);
            due("lay(" + scrap + ", 0, 0)", x.lay(scrap, 0, 0), INVALID);
            due("force(" + scrap + ", 0, 0)", x.force(scrap, 0, 0), INVALID);
            due("lift(" + scrap + ")", x.lift(scrap), INVALID);
            due("turn(" + scrap + ", 0)", x.turn(scrap, 0), INVALID);
            due("ways(" + scrap + ", 0)", x.ways(scrap, 0), INVALID);
            due("bestFor(" + scrap + ")", x.bestFor(scrap), INVALID);
        }
    }

    @Says(in = "Changes and errors", words = "If there is no scrap, place or group with a certain "
            + "number, this is INVALID_ARGUMENT.")
    static void errorsNoSuchPlace() {
        int[][] sizes = {{4, 4}, {1, 1}, {6, 6}, {6, 1}, {1, 6}, {3, 2}};
        for (int[] size : sizes) {
            TornPages x = Pages.alike(size[0], size[1], 1, -1);
            int places = size[0] * size[1];
            int[] numbers = {places, places + 1, 36, -1, MIN, MAX};
            for (int place : numbers) {
                due("lay(0, " + place + ", 0)", x.lay(0, place, 0), INVALID);
                due("force(0, " + place + ", 0)", x.force(0, place, 0), INVALID);
                due("at(" + place + ")", x.at(place), INVALID);
                due("reason(" + place + ", 0)", x.reason(place, 0), INVALID);
                due("ways(0, " + place + ")", x.ways(0, place), INVALID);
            }
            due("the last one is one", x.force(0, places - 1, 0), 0);
        }
    }

    @Says(in = "Changes and errors", words = "If there is no scrap, place or group with a certain "
            + "number, this is INVALID_ARGUMENT.")
    static void errorsNoSuchGroup() {
        int[] never = {-1, MIN, MAX, 12};
        TornPages x = Pages.alike(4, 3, 12, 0);
        for (int scrap = 0; scrap <= 12; scrap++) {
            due("the next group", x.member(scrap, 0), INVALID);
            for (int group : never) {
                due("member(" + group + ", 0)", x.member(group, 0), INVALID);
            }
            if (scrap < 12) {
                x.force(scrap, scrap, 0);
                due("the last group", x.member(scrap, 0), scrap);
            }
        }
    }
}
