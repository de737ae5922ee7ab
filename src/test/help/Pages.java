/** Objects to begin tests with, and what can be seen of an object. */
final class Pages {
    private Pages() {
    }

    static void write(TornPages x, String text) {
        x.clearText();
        for (int i = 0; i < text.length(); i++) {
            x.type(text.charAt(i));
        }
    }

    static int addText(TornPages x, String text) {
        write(x, text);
        return x.add();
    }

    static TornPages withText(String text) {
        TornPages x = new TornPages();
        write(x, text);
        return x;
    }

    /** An object with a page of a size and one scrap for each text, none of them laid. */
    static TornPages withScraps(int width, int height, String... texts) {
        TornPages x = new TornPages();
        x.reset(width, height);
        for (String text : texts) {
            addText(x, text);
        }
        return x;
    }

    /** Scraps whose four edges are all the same, and that have no lines. */
    static TornPages alike(int width, int height, int scraps, int profile) {
        TornPages x = new TornPages();
        x.reset(width, height);
        for (int scrap = 0; scrap < scraps; scrap++) {
            x.addScrap(profile, profile, profile, profile, 0);
        }
        return x;
    }

    /** A page of 2 by 2 torn into four scraps, 0 to 3 for the places 0 to 3, without lines. */
    static TornPages fourScraps() {
        TornPages x = new TornPages();
        x.addScrap(-1, 123, 456, -1, 0);
        x.addScrap(-1, -1, 789, 876, 0);
        x.addScrap(543, 234, -1, -1, 0);
        x.addScrap(210, -1, -1, 765, 0);
        x.reset(2, 2);
        return x;
    }

    static TornPages fourLaid() {
        TornPages x = fourScraps();
        for (int scrap = 0; scrap < 4; scrap++) {
            x.lay(scrap, scrap, 0);
        }
        return x;
    }

    /** A page of at most 12 places torn, each scrap laid where it comes from, with its number. */
    static TornPages full(int width, int height) {
        TornPages x = new TornPages();
        x.reset(width, height);
        for (int place = 0; place < width * height; place++) {
            x.addScrap(place < width ? -1 : 555, (place + 1) % width == 0 ? -1 : 444,
                    place + width < width * height ? 444 : -1, place % width == 0 ? -1 : 555, 0);
            x.lay(place, place, 0);
        }
        return x;
    }

    /**
     * A page of 3 by 3 with a scrap around whose place, the middle, four others may be laid: 0 is
     * the middle one, 1 to 4 are those above it, right of it, below it and left of it.
     */
    static TornPages cross() {
        TornPages x = new TornPages();
        x.reset(3, 3);
        x.addScrap(123, 234, 345, 456, 0);
        x.addScrap(-1, 0, 876, 0, 0);
        x.addScrap(0, -1, 0, 765, 0);
        x.addScrap(654, 0, -1, 0, 0);
        x.addScrap(0, 543, 0, -1, 0);
        return x;
    }

    /** The place of each scrap of the cross. */
    static final int[] CROSS = {4, 1, 5, 7, 3};

    /** The four edges of a scrap in an orientation, "-" for a straight one, and its lines. */
    static String edges(TornPages x, int scrap, int orientation) {
        return four(x, scrap, orientation, 0) + " / " + four(x, scrap, orientation, 1);
    }

    /** The text of a scrap that looks so at once as another does in an orientation. */
    static String textOf(TornPages x, int scrap, int orientation, int kind) {
        StringBuilder text = new StringBuilder();
        for (int edge = 0; edge < 4; edge++) {
            int profile = x.edge(scrap, orientation, edge, 0);
            text.append(edge > 0 ? "," : "").append(profile < 0 ? "-" : String.format("%03d", profile));
            text.append('/').append(x.edge(scrap, orientation, edge, 1));
        }
        return text.append(';').append(kind).toString();
    }

    static String profiles(TornPages x, int scrap, int orientation) {
        return four(x, scrap, orientation, 0);
    }

    static String lines(TornPages x, int scrap, int orientation) {
        return four(x, scrap, orientation, 1);
    }

    private static String four(TornPages x, int scrap, int orientation, int what) {
        StringBuilder told = new StringBuilder();
        for (int edge = 0; edge < 4; edge++) {
            told.append(edge > 0 ? " " : "").append(x.edge(scrap, orientation, edge, what));
        }
        return told.toString();
    }

    /** The numbers that count tells, but for the history's and the text's. */
    static String counts(TornPages x) {
        StringBuilder told = new StringBuilder();
        for (int what = 0; what < 10; what++) {
            told.append(what > 0 ? " " : "").append(x.count(what));
        }
        return told.toString();
    }

    /** What lies at the places from 0 on, "." where none does. */
    static String laid(TornPages x) {
        StringBuilder told = new StringBuilder();
        int places = x.count(2) * x.count(3);
        for (int place = 0; place < places; place++) {
            int scrap = x.at(place);
            told.append(place > 0 ? " " : "").append(scrap == -1004 ? "." : "" + scrap);
        }
        return told.toString();
    }

    /** Page and scraps, of these four at most: an object answers 512 calls alone. */
    static String picture(TornPages x) {
        StringBuilder told = new StringBuilder(counts(x)).append(" | ").append(laid(x));
        int scraps = Math.min(x.count(0), 4);
        for (int scrap = 0; scrap < scraps; scrap++) {
            told.append(" | ").append(x.scrap(scrap, 0)).append(' ').append(x.scrap(scrap, 1));
            told.append(' ').append(x.scrap(scrap, 2)).append(' ').append(edges(x, scrap, 0));
        }
        return told.toString();
    }

    /** The picture, the text as far as it can be seen, and the pictures of the history. */
    static String story(TornPages x) {
        StringBuilder told = new StringBuilder(picture(x)).append("\n  states ").append(x.count(10));
        told.append(", text ").append(x.count(11)).append(" fault ").append(x.fault());
        int states = x.count(10);
        for (int state = 0; state < states; state++) {
            told.append("\n  undo ").append(x.undo()).append(": ");
            told.append(state < 2 || state == states - 1 ? picture(x) : laid(x));
        }
        int added = x.add();
        told.append("\n  add ").append(added).append(": ").append(added < 0 ? "" : edges(x, added, 0));
        return told.toString();
    }
}
