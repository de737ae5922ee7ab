import java.io.IOException;
import java.nio.file.Files;
import java.nio.file.Path;
import java.util.ArrayList;
import java.util.List;
import java.util.regex.Matcher;
import java.util.regex.Pattern;

/** A test for each sentence that names no boundary, so that none of the document is without one. */
public final class TornPagesOrdinarySentences extends Sentences {
    private static final Path SOURCE = Path.of("src/main/java/TornPages.java");

    public static void main(String[] args) throws IOException {
        run(TornPagesOrdinarySentences.class, "Scraps", "Page", "Changes and errors", "Promise 5",
                "Promise 6", "Promise 9", "Promise 10", "Promise 11", "Promise 13", "Promise 14",
                "Promise 15", "Promise 16", "Promise 17", "Promise 19");
    }

    // ---- Terms

    /** A seam of two scraps that are not turned: 1 if the second can lie right of the first, or below. */
    private static int seam(String first, String second, boolean beside) {
        TornPages x = Pages.withScraps(beside ? 2 : 1, beside ? 1 : 2,
                beside ? "-/0," + first + ",-/0,-/0;0" : "-/0,-/0," + first + ",-/0;0",
                beside ? "-/0,-/0,-/0," + second + ";0" : second + ",-/0,-/0,-/0;0");
        x.lay(0, 0, 0);
        return x.lay(1, 1, 0);
    }

    @Says(in = "Scraps", words = "(the steps, from left to right for the edges 0 and 2, from top to "
            + "bottom for 1 and 3)")
    static void scrapsStepsAreToldInOneDirection() {
        due("right and left", seam("012/0", "987/0", true), 1);
        due("right and left, reversed", seam("012/0", "789/0", true), NOT_POSSIBLE);
        due("bottom and top", seam("012/0", "987/0", false), 1);
        due("bottom and top, reversed", seam("012/0", "789/0", false), NOT_POSSIBLE);
    }

    @Says(in = "Scraps", words = "another number is the line that crosses it")
    static void scrapsLinesCrossTheirEdges() {
        for (int line = 1; line <= 9; line++) {
            TornPages x = Pages.withScraps(4, 4, "000/" + line + ",-/0,-/0,000/0;0");
            same("lines", Pages.lines(x, 0, 0), line + " 0 0 0");
            due("it goes on", seam("123/" + line, "876/" + line, true), 1);
            due("it ends", seam("123/" + line, "876/0", true), NOT_POSSIBLE);
            due("another goes on", seam("123/" + line, "876/" + (line % 9 + 1), true), NOT_POSSIBLE);
        }
    }

    @Says(in = "Scraps", words = "A scrap is printed on its front alone")
    static void scrapsPrintedOnTheirFront() {
        TornPages x = Pages.withScraps(4, 4, "000/1,000/2,000/3,000/4;0", "000/1,000/2,000/3,000/4;1");
        same("the front alone", Pages.lines(x, 0, 0), "1 2 3 4");
        same("and no back", Pages.lines(x, 0, 4), "0 0 0 0");
        same("both sides, the front", Pages.lines(x, 1, 0), "1 2 3 4");
        same("both sides, the back", Pages.lines(x, 1, 4), "1 4 3 2");
    }

    @Says(in = "Scraps", words = "around its vertical axis")
    static void scrapsTurnedOverKeepTopAndBottom() {
        TornPages x = Pages.withScraps(4, 4, "111/1,222/2,333/3,444/4;1");
        same("turned over", Pages.edges(x, 0, 4), "111 444 333 222 / 1 4 3 2");
    }

    @Says(in = "Page", words = "The page has a width and a height")
    static void pageWidthAndHeight() {
        TornPages x = new TornPages();
        x.reset(5, 2);
        due("the width", x.count(2), 5);
        due("the height", x.count(3), 2);
        due("places", x.count(9), 10);
    }

    @Says(in = "Page", words = "If scraps lie at both, the seam fits if the profiles of both edges at it "
            + "complete each other")
    static void pageSeamsFitByThoseTwoEdges() {
        String[] texts = {"-/0,123/4,555/6,-/0;0", "-/0,-/0,777/8,876/4;0"};
        TornPages x = Pages.withScraps(2, 2, texts);
        due("the first", x.lay(0, 0, 0), 0);
        due("the second", x.lay(1, 1, 0), 1);
        due("from the left", x.reason(0, 1), 0);
        due("from the right", x.reason(1, 3), 0);
        due("seams that fit", x.count(6), 1);
    }

    /** No call has both errors, so each is seen where it stands beside one that goes before it. */
    @Says(in = "Changes and errors", words = "LIMIT_REACHED rather than NOT_FOUND")
    static void errorsAtTheLimits() {
        TornPages x = Pages.alike(4, 4, 12, -1);
        due("a 13th scrap", x.addScrap(-1, -1, -1, -1, 0), LIMIT);
        Pages.write(x, "-/0,-/0,-/0,-/0;0");
        due("no fault", x.fault(), NOT_FOUND);
        due("a 13th scrap of a text", x.add(), LIMIT);
    }

    @Says(in = "Changes and errors", words = "An argument is out of its range, or there is no such scrap, "
            + "place or group.")
    static void errorsOfArguments() {
        TornPages x = Pages.fourLaid();
        due("out of its range", x.count(12), INVALID);
        due("no such scrap", x.lift(4), INVALID);
        due("no such place", x.at(4), INVALID);
        due("no such group", x.member(1, 0), INVALID);
    }

    @Says(in = "Changes and errors", words = "The call is not possible in the present state.")
    static void errorsOfTheState() {
        TornPages x = Pages.fourScraps();
        due("beside the page", x.lift(0), NOT_POSSIBLE);
        x.lay(0, 0, 0);
        due("on the page", x.lift(0), 0);
    }

    @Says(in = "Changes and errors", words = "A fixed limit has been reached.")
    static void errorsOfLimits() {
        TornPages x = new TornPages();
        for (int length = 1; length <= 60; length++) {
            due("type", x.type('a'), length);
        }
        due("the 61st", x.type('a'), LIMIT);
        for (int scrap = 0; scrap < 12; scrap++) {
            due("addScrap", x.addScrap(0, 0, 0, 0, 0), scrap);
        }
        due("the 13th", x.addScrap(0, 0, 0, 0, 0), LIMIT);
    }

    @Says(in = "Changes and errors", words = "There is no such value.")
    static void errorsOfValues() {
        TornPages x = Pages.fourScraps();
        due("no scrap there", x.at(0), NOT_FOUND);
        due("no place", x.scrap(0, 2), NOT_FOUND);
        x.lay(0, 0, 0);
        due("the scrap", x.at(0), 0);
        due("the place", x.scrap(0, 2), 0);
    }

    /** What the source says ahead of a call: the last "// ----" before it. */
    private static List<String> callsUnder(String title) throws IOException {
        Pattern pattern = Pattern.compile(" {4}// ---- (.+)| {4}public int (\\w+)\\(.*");
        List<String> calls = new ArrayList<>();
        String now = "";
        for (String line : Files.readAllLines(SOURCE)) {
            Matcher matcher = pattern.matcher(line);
            if (matcher.matches() && matcher.group(1) != null) {
                now = matcher.group(1);
            } else if (matcher.matches() && now.equals(title)) {
                calls.add(matcher.group(2));
            }
        }
        return calls;
    }

    @Says(in = "Changes and errors", words = "`reset`, `addScrap`, `add`, `removeScrap`, `scrap`, `edge`, "
            + "`undo`, `count` the interface says: ---- scraps.")
    static void interfaceSaysScraps() throws IOException {
        same("scraps", callsUnder("scraps").toString(),
                "[reset, addScrap, add, removeScrap, scrap, edge, undo, count]");
    }

    @Says(in = "Changes and errors", words = "`lay`, `force`, `lift`, `turn`, `at`, `reason`, `ways`, "
            + "`bestFor`, `fill`, `member`, `canFill` the interface says: ---- the page.")
    static void interfaceSaysThePage() throws IOException {
        same("the page", callsUnder("the page").toString(),
                "[lay, force, lift, turn, at, reason, ways, bestFor, fill, member, canFill]");
    }

    @Says(in = "Changes and errors", words = "`type`, `clearText`, `fault` the interface says: ---- texts.")
    static void interfaceSaysTexts() throws IOException {
        same("texts", callsUnder("texts").toString(), "[type, clearText, fault]");
    }

    // ---- Promises 5, 6 and 9

    @Says(in = "Promise 5", words = "`scrap`: number of the scrap")
    static void p05ScrapNumbers() {
        TornPages x = Pages.fourLaid();
        int[] refused = {-1, 4, 5, 11, 12, MIN, MAX};
        for (int scrap : refused) {
            due("removeScrap(" + scrap + ")", x.removeScrap(scrap), INVALID);
        }
        due("the last", x.removeScrap(3), 3);
        due("there is none now", x.removeScrap(3), INVALID);
        same("what lies", Pages.laid(x), "0 1 2 .");
    }

    @Says(in = "Promise 6", words = "Returns a property of a scrap.")
    static void p06EachPropertyOfEachScrap() {
        TornPages x = Pages.fourScraps();
        int[] places = {0, 3, 2, 1};
        for (int scrap = 0; scrap < 4; scrap++) {
            x.force(scrap, places[scrap], scrap + 2);
        }
        for (int scrap = 0; scrap < 4; scrap++) {
            due("kind of " + scrap, x.scrap(scrap, 0), 0);
            due("orientation of " + scrap, x.scrap(scrap, 1), scrap + 2);
            due("place of " + scrap, x.scrap(scrap, 2), places[scrap]);
            due("edges of " + scrap, x.scrap(scrap, 4) + x.scrap(scrap, 5), 4);
        }
    }

    @Says(in = "Promise 6", words = "0: its kind")
    static void p06Kind() {
        TornPages x = Pages.withScraps(4, 4, "-/0,-/0,-/0,-/0;1", "-/0,-/0,-/0,-/0;0");
        x.addScrap(0, 0, 0, 0, 1);
        x.addScrap(0, 0, 0, 0, 0);
        for (int scrap = 0; scrap < 4; scrap++) {
            due("kind of " + scrap, x.scrap(scrap, 0), 1 - scrap % 2);
        }
        x.force(2, 5, 7);
        due("kind on the page", x.scrap(2, 0), 1);
    }

    @Says(in = "Promise 6", words = "2: its place")
    static void p06Place() {
        TornPages x = Pages.alike(6, 6, 1, 0);
        for (int place = 0; place < 36; place++) {
            x.force(0, place, place % 8);
            due("place", x.scrap(0, 2), place);
            due("lift", x.lift(0), place);
            due("beside", x.scrap(0, 2), NOT_FOUND);
        }
    }

    @Says(in = "Promise 6", words = "3: its group")
    static void p06Group() {
        TornPages x = Pages.fourLaid();
        for (int scrap = 0; scrap < 4; scrap++) {
            due("one group", x.scrap(scrap, 3), 0);
        }
        x.turn(0, 2);
        int[] groups = {0, 1, 1, 1};
        for (int scrap = 0; scrap < 4; scrap++) {
            due("without the scrap 0, " + scrap, x.scrap(scrap, 3), groups[scrap]);
        }
        x.lift(0);
        due("lifted", x.scrap(0, 3), NOT_FOUND);
        due("the only group", x.scrap(3, 3), 0);
    }

    @Says(in = "Promise 9", words = "Returns a number.")
    static void p09EachNumber() {
        TornPages x = Pages.fourLaid();
        same("laid", Pages.counts(x), "4 4 2 2 1 4 4 8 0 0");
        x.turn(3, 4);
        same("one turned over", Pages.counts(x), "4 4 2 2 2 4 2 7 1 0");
        x.lift(0);
        same("another lifted", Pages.counts(x), "4 3 2 2 3 2 0 5 1 1");
    }

    // ---- Promises 10, 11, 13

    @Says(in = "Promise 10", words = "Lays a scrap that lies beside the page.")
    static void p10Lays() {
        TornPages x = Pages.fourScraps();
        due("lay", x.lay(3, 0, 2), 0);
        due("the place", x.scrap(3, 2), 0);
        due("the orientation", x.scrap(3, 1), 2);
        same("what lies", Pages.laid(x), "3 . . .");
        due("another one", x.lay(2, 1, 2), 1);
        same("what lies then", Pages.laid(x), "3 2 . .");
    }

    @Says(in = "Promise 10", words = "INVALID_ARGUMENT if an argument is out of range")
    static void p10EachArgument() {
        TornPages x = Pages.fourScraps();
        String before = Pages.picture(x);
        due("scrap", x.lay(4, 0, 0), INVALID);
        due("place", x.lay(0, 4, 0), INVALID);
        due("orientation", x.lay(0, 0, 8), INVALID);
        due("all", x.lay(-1, -1, -1), INVALID);
        same("nothing is changed", Pages.picture(x), before);
    }

    @Says(in = "Promise 11", words = "INVALID_ARGUMENT if an argument is out of range")
    static void p11EachArgument() {
        TornPages x = Pages.fourScraps();
        String before = Pages.picture(x);
        due("scrap", x.force(4, 0, 0), INVALID);
        due("place", x.force(0, 4, 0), INVALID);
        due("orientation", x.force(0, 0, 8), INVALID);
        due("all", x.force(-1, -1, -1), INVALID);
        same("nothing is changed", Pages.picture(x), before);
    }

    @Says(in = "Promise 13", words = "Turns a scrap on the page to another orientation, whether it fits "
            + "then or not.")
    static void p13TurnsHoweverItFits() {
        TornPages x = Pages.fourLaid();
        int[] faults = {0, 3, 4, 3, 3, 4, 3, 2};
        for (int orientation = 7; orientation >= 0; orientation--) {
            due("turn(0, " + orientation + ")", x.turn(0, orientation), faults[orientation]);
            due("the orientation", x.scrap(0, 1), orientation);
            due("the place", x.scrap(0, 2), 0);
        }
        same("the others", Pages.laid(x), "0 1 2 3");
    }

    @Says(in = "Promise 13", words = "INVALID_ARGUMENT if an argument is out of range")
    static void p13EachArgument() {
        TornPages x = Pages.fourLaid();
        due("scrap", x.turn(4, 0), INVALID);
        due("orientation", x.turn(0, 8), INVALID);
        due("both", x.turn(-1, -1), INVALID);
        due("it lies as it did", x.scrap(0, 1), 0);
    }

    // ---- Promises 14 to 17 and 19

    @Says(in = "Promise 14", words = "Returns the scrap at a place.")
    static void p14ScrapAtEachPlace() {
        TornPages x = Pages.alike(4, 3, 12, 0);
        for (int scrap = 0; scrap < 12; scrap++) {
            x.force(scrap, scrap * 5 % 12, 0);
        }
        for (int scrap = 0; scrap < 12; scrap++) {
            due("at(" + scrap * 5 % 12 + ")", x.at(scrap * 5 % 12), scrap);
        }
    }

    @Says(in = "Promise 15", words = "Returns the reason of an edge of the scrap at a place.")
    static void p15ReasonOfEachEdge() {
        TornPages x = Pages.withScraps(3, 3, "123/1,234/0,345/5,456/6;0", "-/0,-/0,876/1,-/0;0",
                "-/0,-/0,-/0,-/0;0", "653/5,-/0,-/0,-/0;0", "-/0,543/7,-/0,-/0;0");
        for (int scrap = 0; scrap < 5; scrap++) {
            x.force(scrap, Pages.CROSS[scrap], 0);
        }
        int[] reasons = {0, 1, 2, 3};
        for (int edge = 0; edge < 4; edge++) {
            due("reason(4, " + edge + ")", x.reason(4, edge), reasons[edge]);
            due("from the other side", x.reason(Pages.CROSS[edge + 1], (edge + 2) % 4), reasons[edge]);
        }
    }

    @Says(in = "Promise 15", words = "INVALID_ARGUMENT")
    static void p15EachArgument() {
        TornPages x = Pages.fourLaid();
        due("place", x.reason(4, 0), INVALID);
        due("edge", x.reason(0, 4), INVALID);
        due("both", x.reason(-1, -1), INVALID);
        x.lift(0);
        due("edge of an empty place", x.reason(0, 4), INVALID);
    }

    @Says(in = "Promise 16", words = "Returns the number of orientations")
    static void p16NumberOfOrientations() {
        TornPages x = Pages.alike(1, 1, 1, -1);
        due("straight all around", x.ways(0, 0), 8);
        x = Pages.fourScraps();
        due("in a corner", x.ways(0, 3), 2);
        x.lay(3, 3, 0);
        due("beside another scrap", x.ways(1, 1), 1);
        due("where it does not fit", x.ways(0, 1), 0);
    }

    @Says(in = "Promise 16", words = "INVALID_ARGUMENT if an argument is out of range")
    static void p16EachArgument() {
        TornPages x = Pages.fourLaid();
        due("scrap", x.ways(4, 0), INVALID);
        due("place", x.ways(0, 4), INVALID);
        due("both", x.ways(-1, -1), INVALID);
        due("no such scrap, at a place that is taken", x.ways(4, 3), INVALID);
    }

    @Says(in = "Promise 17", words = "Returns the place and the orientation in which a scrap that lies "
            + "beside the page")
    static void p17LaidAsItTells() {
        TornPages x = Pages.fourScraps();
        x.lay(0, 0, 0);
        int[] best = {0, 10, 20, 30};
        for (int scrap = 1; scrap < 4; scrap++) {
            due("bestFor(" + scrap + ")", x.bestFor(scrap), best[scrap]);
            due("lay", x.lay(scrap, best[scrap] / 10, best[scrap] % 10), scrap == 3 ? 2 : 1);
        }
    }

    @Says(in = "Promise 17", words = "INVALID_ARGUMENT")
    static void p17NoSuchScrap() {
        TornPages x = Pages.fourScraps();
        due("bestFor(-1)", x.bestFor(-1), INVALID);
        due("bestFor(4)", x.bestFor(4), INVALID);
        due("the last", x.bestFor(3), 2);
        x.removeScrap(3);
        due("it is gone", x.bestFor(3), INVALID);
    }

    @Says(in = "Promise 19", words = "Returns a scrap of a group.")
    static void p19EachScrapOfEachGroup() {
        TornPages x = Pages.fourLaid();
        x.turn(2, 2);
        int[][] members = {{0, 1, 3}, {2}};
        for (int group = 0; group < 2; group++) {
            for (int index = 0; index < members[group].length; index++) {
                due("member(" + group + ", " + index + ")", x.member(group, index),
                        members[group][index]);
            }
        }
    }

    @Says(in = "Promise 19", words = "`group`: number of the group")
    static void p19GroupNumbers() {
        TornPages x = Pages.fourLaid();
        int[] refused = {-1, 1, 2, 11, MIN, MAX};
        for (int group : refused) {
            due("member(" + group + ", 0)", x.member(group, 0), INVALID);
        }
        due("the only one", x.member(0, 0), 0);
        x.turn(3, 2);
        due("a second one", x.member(1, 0), 3);
    }
}
