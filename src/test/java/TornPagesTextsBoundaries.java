import java.io.IOException;

/** A test for each sentence of the promises 21 to 23 that names a boundary. */
public final class TornPagesTextsBoundaries extends Sentences {

    public static void main(String[] args) throws IOException {
        run(TornPagesTextsBoundaries.class, "Promise 21", "Promise 22", "Promise 23");
    }

    // ---- Promise 21: type

    @Says(in = "Promise 21", words = "`character`: 32 to 126")
    static void p21Characters32To126() {
        TornPages x = new TornPages();
        int[] refused = {31, 127, 0, -1, 10, 128, 255, 256 + 48, 65536 + 48, MIN, MAX};
        for (int character : refused) {
            due("type(" + character + ")", x.type(character), INVALID);
            due("length", x.count(11), 0);
        }
        int length = 0;
        for (int character = 32; character <= 126; character++) {
            if (length == 60) {
                x.clearText();
                length = 0;
            }
            length++;
            due("type(" + character + ")", x.type(character), length);
        }
    }

    @Says(in = "Promise 21", words = "Appends a character to the text.")
    static void p21AppendsAtTheEnd() {
        TornPages x = new TornPages();
        String text = "012/3,-/0,345/0,999/1;1";
        for (int length = 1; length <= text.length(); length++) {
            due("too early", x.add(), NOT_POSSIBLE);
            due("type", x.type(text.charAt(length - 1)), length);
        }
        due("whole", x.add(), 0);
        same("the scrap", Pages.edges(x, 0, 0), "12 -1 345 999 / 3 0 0 1");
    }

    @Says(in = "Promise 21", words = "Returns the length of the text")
    static void p21ReturnsTheLength() {
        TornPages x = new TornPages();
        for (int length = 1; length <= 60; length++) {
            due("type", x.type(' '), length);
            due("length", x.count(11), length);
        }
    }

    @Says(in = "Promise 21", words = "INVALID_ARGUMENT if character is out of range")
    static void p21RefusedIsNotAppended() {
        TornPages x = Pages.withText("-/0,-/0,-/0,-/0;");
        due("too low", x.type(31), INVALID);
        due("too high", x.type(127), INVALID);
        x.type('1');
        due("the text is whole", x.fault(), NOT_FOUND);
        due("length", x.count(11), 17);
    }

    @Says(in = "Promise 21", words = "LIMIT_REACHED if it has 60 characters.")
    static void p21LimitAt60() {
        TornPages x = Pages.withText("-/0,-/0,-/0,-/0;1" + " ".repeat(42));
        due("the 60th", x.type(' '), 60);
        due("a 61st", x.type(' '), LIMIT);
        due("another 61st", x.type('~'), LIMIT);
        due("length", x.count(11), 60);
        due("its fault", x.fault(), 17);
        due("clearText", x.clearText(), 60);
        due("there is room again", x.type(' '), 1);
    }

    // ---- Promise 22: clearText

    @Says(in = "Promise 22", words = "Empties the text.")
    static void p22Empties() {
        TornPages x = Pages.withText("-/0,-/0,-/0,-/0;1");
        due("clearText", x.clearText(), 17);
        due("length", x.count(11), 0);
        due("fault", x.fault(), 0);
        due("add", x.add(), NOT_POSSIBLE);
        x.type('-');
        due("nothing of the old text", x.fault(), 1);
    }

    @Says(in = "Promise 22", words = "Returns the length it had.")
    static void p22ReturnsTheLengthItHad() {
        for (int length = 0; length <= 60; length++) {
            TornPages x = Pages.withText("x".repeat(length));
            due("clearText", x.clearText(), length);
            due("again", x.clearText(), 0);
        }
        TornPages full = Pages.withText("x".repeat(61));
        due("no more than 60", full.clearText(), 60);
    }

    // ---- Promise 23: fault

    @Says(in = "Promise 23", words = "Returns the fault of the text")
    static void p23FromThePosition0To25() {
        due("empty", new TornPages().fault(), 0);
        due("the first", Pages.withText("/").fault(), 0);
        due("the last of the shortest", Pages.withText("-/0,-/0,-/0,-/0;2").fault(), 16);
        due("behind the shortest", Pages.withText("-/0,-/0,-/0,-/0;00").fault(), 17);
        due("the last of the longest", Pages.withText("000/0,000/0,000/0,000/0;2").fault(), 24);
        due("behind the longest", Pages.withText("000/0,000/0,000/0,000/0;00").fault(), 25);
        due("sixty", Pages.withText("000/0,000/0,000/0,000/0;0" + "0".repeat(35)).fault(), 25);
        due("a digit for a comma", Pages.withText("999/90").fault(), 5);
        due("a comma for a semicolon", Pages.withText("-/0,-/0,-/0,999/9,0").fault(), 17);
        due("a semicolon for a comma", Pages.withText("-/0,-/0,999/9;0").fault(), 13);
    }

    @Says(in = "Promise 23", words = "NOT_FOUND if it has none.")
    static void p23NotFoundIfItHasNone() {
        String[] edges = {"-/0", "000/0", "999/9", "090/5"};
        for (int number = 0; number < 256; number++) {
            String text = edges[number & 3] + "," + edges[number >> 2 & 3] + ","
                    + edges[number >> 4 & 3] + "," + edges[number >> 6] + ";";
            due(text, Pages.withText(text).fault(), text.length());
            due(text + "0", Pages.withText(text + "0").fault(), NOT_FOUND);
            due(text + "1", Pages.withText(text + "1").fault(), NOT_FOUND);
            due(text + "00", Pages.withText(text + "00").fault(), text.length() + 1);
        }
    }

    @Says(in = "Promise 23", words = "Returns the fault of the text; NOT_FOUND if it has none.")
    static void p23AsOftenAsAsked() {
        TornPages x = Pages.withText("-/0,-/0,x");
        due("fault", x.fault(), 8);
        due("again", x.fault(), 8);
        due("add", x.add(), NOT_POSSIBLE);
        due("after add", x.fault(), 8);
        due("length", x.count(11), 9);
        Pages.write(x, "-/0,-/0,-/0,-/0;0");
        due("of a whole one", x.fault(), NOT_FOUND);
        due("add", x.add(), 0);
        due("after add", x.fault(), NOT_FOUND);
        due("no change", x.count(10), 1);
    }
}
