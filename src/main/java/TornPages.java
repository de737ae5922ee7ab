import java.util.Arrays;

/** Torn pages put together; what each call answers stands in the document, promise by promise. */
public final class TornPages {

    public static final int INVALID_ARGUMENT = -1001;
    public static final int NOT_POSSIBLE = -1002;
    public static final int LIMIT_REACHED = -1003;
    public static final int NOT_FOUND = -1004;

    private static final int NONE = -1;
    private static final int STRAIGHT = -1;
    private static final int MOST_PROFILE = 999;

    private static final int MOST_SCRAPS = 12;
    private static final int MOST_SIDE = 6;
    private static final int FIRST_SIDE = 4;
    private static final int MOST_STATES = 5;
    private static final int MOST_CHARACTERS = 60;
    private static final int MOST_PLACES_TO_FILL = 6;

    private static final int EDGES = 4;
    private static final int TOP = 0;
    private static final int RIGHT = 1;
    private static final int BOTTOM = 2;
    private static final int LEFT = 3;

    private static final int ORIENTATIONS = 8;
    private static final int FIRST_TURNED_OVER = 4;

    private static final int FITS = 0;
    private static final int EDGE_IS_STRAIGHT = 1;
    private static final int PROFILES_DIFFER = 2;
    private static final int LINES_DIFFER = 3;
    private static final int BORDER_NOT_STRAIGHT = 4;

    private final Desk desk;
    private final Desk trial;
    private final History history;
    private final Groups groups;
    private final Text text;
    private final Draft draft;

    public TornPages() {
        desk = new Desk();
        trial = new Desk();
        history = new History();
        groups = new Groups();
        text = new Text();
        draft = new Draft();
    }

    // ---- scraps

    public int reset(int width, int height) {
        if (!isWithin(width, 1, MOST_SIDE) || !isWithin(height, 1, MOST_SIDE)) {
            return INVALID_ARGUMENT;
        }
        int lying = desk.countLying();
        history.keep(desk);
        desk.page.clear(width, height);
        return lying;
    }

    public int addScrap(int top, int right, int bottom, int left, int kind) {
        if (!isProfile(top) || !isProfile(right) || !isProfile(bottom) || !isProfile(left)
                || !isWithin(kind, 0, 1)) {
            return INVALID_ARGUMENT;
        }
        if (desk.scraps.size() >= MOST_SCRAPS) {
            return LIMIT_REACHED;
        }
        draft.setEdge(TOP, top, 0);
        draft.setEdge(RIGHT, right, 0);
        draft.setEdge(BOTTOM, bottom, 0);
        draft.setEdge(LEFT, left, 0);
        draft.setKind(kind);
        return append(draft);
    }

    public int add() {
        text.read();
        if (!text.isSound()) {
            return NOT_POSSIBLE;
        }
        if (desk.scraps.size() >= MOST_SCRAPS) {
            return LIMIT_REACHED;
        }
        return append(text.draft());
    }

    public int removeScrap(int scrap) {
        if (!isScrap(scrap)) {
            return INVALID_ARGUMENT;
        }
        history.keep(desk);
        desk.remove(scrap);
        return desk.scraps.size();
    }

    public int scrap(int scrap, int what) {
        if (!isScrap(scrap) || !isWithin(what, 0, 5)) {
            return INVALID_ARGUMENT;
        }
        if (what > 1 && !desk.page.lies(scrap)) {
            return NOT_FOUND;
        }
        switch (what) {
            case 0:
                return desk.scraps.kind(scrap);
            case 1:
                return desk.page.orientationOf(scrap);
            case 2:
                return desk.page.placeOf(scrap);
            case 3:
                groups.gather(desk);
                return groups.groupOf(scrap);
            case 4:
                return desk.countFits(scrap);
            default:
                return desk.countFaults(scrap);
        }
    }

    public int edge(int scrap, int orientation, int edge, int what) {
        if (!isScrap(scrap) || !isOrientation(orientation) || !isEdge(edge)
                || !isWithin(what, 0, 1)) {
            return INVALID_ARGUMENT;
        }
        return what == 0
                ? desk.scraps.profile(scrap, orientation, edge)
                : desk.scraps.line(scrap, orientation, edge);
    }

    public int undo() {
        if (history.size() == 0) {
            return NOT_POSSIBLE;
        }
        history.restore(desk);
        return history.size();
    }

    public int count(int what) {
        switch (what) {
            case 0:
                return desk.scraps.size();
            case 1:
                return desk.countLying();
            case 2:
                return desk.page.width();
            case 3:
                return desk.page.height();
            case 4:
                groups.gather(desk);
                return groups.size();
            case 5:
                return desk.countSeams();
            case 6:
                return desk.countFittingSeams();
            case 7:
                return desk.countBorderEdges(FITS);
            case 8:
                return desk.countBorderEdges(BORDER_NOT_STRAIGHT);
            case 9:
                return desk.page.places() - desk.countLying();
            case 10:
                return history.size();
            case 11:
                return text.length();
            default:
                return INVALID_ARGUMENT;
        }
    }

    // ---- the page

    public int lay(int scrap, int place, int orientation) {
        if (!isScrap(scrap) || !isPlace(place) || !isOrientation(orientation)) {
            return INVALID_ARGUMENT;
        }
        if (!isFree(scrap, place) || !desk.canLie(scrap, place, orientation)) {
            return NOT_POSSIBLE;
        }
        history.keep(desk);
        desk.page.put(scrap, place, orientation);
        return desk.seamsAt(scrap, place);
    }

    public int force(int scrap, int place, int orientation) {
        if (!isScrap(scrap) || !isPlace(place) || !isOrientation(orientation)) {
            return INVALID_ARGUMENT;
        }
        if (!isFree(scrap, place)) {
            return NOT_POSSIBLE;
        }
        history.keep(desk);
        desk.page.put(scrap, place, orientation);
        return desk.countFaults(scrap);
    }

    public int lift(int scrap) {
        if (!isScrap(scrap)) {
            return INVALID_ARGUMENT;
        }
        if (!desk.page.lies(scrap)) {
            return NOT_POSSIBLE;
        }
        history.keep(desk);
        int place = desk.page.placeOf(scrap);
        desk.page.take(scrap);
        return place;
    }

    public int turn(int scrap, int orientation) {
        if (!isScrap(scrap) || !isOrientation(orientation)) {
            return INVALID_ARGUMENT;
        }
        if (!desk.page.lies(scrap)) {
            return NOT_POSSIBLE;
        }
        history.keep(desk);
        desk.page.put(scrap, desk.page.placeOf(scrap), orientation);
        return desk.countFaults(scrap);
    }

    public int at(int place) {
        if (!isPlace(place)) {
            return INVALID_ARGUMENT;
        }
        int lying = desk.page.scrapAt(place);
        return lying == NONE ? NOT_FOUND : lying;
    }

    public int reason(int place, int edge) {
        if (!isPlace(place) || !isEdge(edge)) {
            return INVALID_ARGUMENT;
        }
        int lying = desk.page.scrapAt(place);
        if (lying == NONE) {
            return NOT_FOUND;
        }
        int verdict = desk.verdict(lying, place, desk.page.orientationOf(lying), edge);
        return verdict == NONE ? NOT_FOUND : verdict;
    }

    public int ways(int scrap, int place) {
        if (!isScrap(scrap) || !isPlace(place)) {
            return INVALID_ARGUMENT;
        }
        int lying = desk.page.scrapAt(place);
        if (lying != NONE && lying != scrap) {
            return NOT_POSSIBLE;
        }
        return desk.countWays(scrap, place);
    }

    public int bestFor(int scrap) {
        if (!isScrap(scrap)) {
            return INVALID_ARGUMENT;
        }
        if (desk.page.lies(scrap)) {
            return NOT_POSSIBLE;
        }
        int best = desk.bestPlace(scrap);
        return best == NONE ? NOT_FOUND : best;
    }

    public int fill() {
        history.keep(desk);
        int laid = 0;
        while (laid < MOST_SCRAPS && desk.layNext()) {
            laid++;
        }
        return laid;
    }

    public int member(int group, int index) {
        groups.gather(desk);
        if (!isWithin(group, 0, groups.size() - 1) || index < 0) {
            return INVALID_ARGUMENT;
        }
        int found = groups.scrapOf(group, index);
        return found == NONE ? NOT_FOUND : found;
    }

    public int canFill() {
        int places = desk.page.places();
        if (desk.scraps.size() != places || places > MOST_PLACES_TO_FILL) {
            return NOT_POSSIBLE;
        }
        trial.copy(desk);
        trial.page.clear(desk.page.width(), desk.page.height());
        return fillsFrom(trial, 0) ? 1 : 0;
    }

    // ---- texts

    public int type(int character) {
        if (!isWithin(character, 32, 126)) {
            return INVALID_ARGUMENT;
        }
        if (text.length() >= MOST_CHARACTERS) {
            return LIMIT_REACHED;
        }
        text.append(character);
        return text.length();
    }

    public int clearText() {
        int length = text.length();
        text.clear();
        return length;
    }

    public int fault() {
        text.read();
        return text.isSound() ? NOT_FOUND : text.position();
    }

    // ---- what the calls share

    private int append(Draft added) {
        history.keep(desk);
        desk.scraps.append(added);
        return desk.scraps.size() - 1;
    }

    private boolean isFree(int scrap, int place) {
        return !desk.page.lies(scrap) && desk.page.scrapAt(place) == NONE;
    }

    private boolean isScrap(int scrap) {
        return isWithin(scrap, 0, desk.scraps.size() - 1);
    }

    private boolean isPlace(int place) {
        return isWithin(place, 0, desk.page.places() - 1);
    }

    private static boolean isOrientation(int orientation) {
        return isWithin(orientation, 0, ORIENTATIONS - 1);
    }

    private static boolean isEdge(int edge) {
        return isWithin(edge, 0, EDGES - 1);
    }

    private static boolean isProfile(int profile) {
        return isWithin(profile, STRAIGHT, MOST_PROFILE);
    }

    private static boolean isWithin(int number, int low, int high) {
        return low <= number && number <= high;
    }

    /** Tells whether the scraps beside the page can fill it from a place on; the place is the depth. */
    private static boolean fillsFrom(Desk desk, int place) {
        if (place >= MOST_PLACES_TO_FILL || place >= desk.page.places()) {
            return true;
        }
        for (int scrap = 0; scrap < desk.scraps.size(); scrap++) {
            for (int orientation = 0; orientation < ORIENTATIONS; orientation++) {
                if (!desk.page.lies(scrap) && desk.canLie(scrap, place, orientation)) {
                    desk.page.put(scrap, place, orientation);
                    if (fillsFrom(desk, place + 1)) {
                        return true;
                    }
                    desk.page.take(scrap);
                }
            }
        }
        return false;
    }

    /** Numbers of which each index is tested: beyond the row stands NONE, and nothing is kept there. */
    private static final class Row {
        private final int[] numbers;

        Row(int length) {
            numbers = new int[Math.max(length, 0)];
        }

        int get(int index) {
            return index >= 0 && index < numbers.length ? numbers[index] : NONE;
        }

        void set(int index, int number) {
            if (index >= 0 && index < numbers.length) {
                numbers[index] = number;
            }
        }

        void setAll(int number) {
            Arrays.fill(numbers, number);
        }

        void copy(Row other) {
            int length = Math.min(numbers.length, other.numbers.length);
            System.arraycopy(other.numbers, 0, numbers, 0, length);
        }

        /** Takes some numbers out; the later ones move up, and the last ones stay as they are. */
        void cut(int from, int length) {
            int behind = numbers.length - length - from;
            if (from >= 0 && length >= 0 && behind >= 0) {
                System.arraycopy(numbers, from + length, numbers, from, behind);
            }
        }
    }

    /** A scrap before it has a number: its edges as told, in the orientation 0. */
    private static final class Draft {
        private final Row profiles = new Row(EDGES);
        private final Row lines = new Row(EDGES);
        private int kind;

        void setEdge(int edge, int profile, int line) {
            profiles.set(edge, profile);
            lines.set(edge, line);
        }

        void setKind(int newKind) {
            kind = newKind;
        }

        int kind() {
            return kind;
        }

        int profile(int orientation, int edge) {
            int profile = profiles.get(origin(orientation, edge));
            return isReversed(orientation, edge) ? reverse(profile) : profile;
        }

        int line(int orientation, int edge) {
            boolean blankBack = kind == 0 && orientation >= FIRST_TURNED_OVER;
            return blankBack ? 0 : lines.get(origin(orientation, edge));
        }

        /** The edge of the orientation 0 that stands at an edge in another orientation. */
        private static int origin(int orientation, int edge) {
            int unturned = unturned(orientation, edge);
            return orientation >= FIRST_TURNED_OVER ? (EDGES - unturned) & 3 : unturned;
        }

        private static int unturned(int orientation, int edge) {
            return (edge - orientation) & 3;
        }

        /**
         * The profiles of top and right are told clockwise around the scrap, the other two against
         * that: a turn reverses the digits of an edge that goes from the ones to the others.
         */
        private static boolean isReversed(int orientation, int edge) {
            int unturned = unturned(orientation, edge);
            boolean byTurn = isToldClockwise(unturned) != isToldClockwise(edge);
            boolean byTurningOver = orientation >= FIRST_TURNED_OVER
                    && (unturned == TOP || unturned == BOTTOM);
            return byTurn != byTurningOver;
        }

        private static boolean isToldClockwise(int edge) {
            return edge == TOP || edge == RIGHT;
        }

        private static int reverse(int profile) {
            if (profile == STRAIGHT) {
                return STRAIGHT;
            }
            return profile % 10 * 100 + profile / 10 % 10 * 10 + profile / 100;
        }
    }

    /** The scraps with their edges in all orientations, so that nothing is turned while they are tried. */
    private static final class Scraps {
        private static final int SHOWN_EDGES = ORIENTATIONS * EDGES;

        private final Row kinds = new Row(MOST_SCRAPS);
        private final Row profiles = new Row(MOST_SCRAPS * SHOWN_EDGES);
        private final Row lines = new Row(MOST_SCRAPS * SHOWN_EDGES);
        private int size;

        int size() {
            return size;
        }

        int kind(int scrap) {
            return kinds.get(scrap);
        }

        int profile(int scrap, int orientation, int edge) {
            return profiles.get(scrap * SHOWN_EDGES + orientation * EDGES + edge);
        }

        int line(int scrap, int orientation, int edge) {
            return lines.get(scrap * SHOWN_EDGES + orientation * EDGES + edge);
        }

        void append(Draft draft) {
            if (size >= MOST_SCRAPS) {
                return;
            }
            kinds.set(size, draft.kind());
            for (int orientation = 0; orientation < ORIENTATIONS; orientation++) {
                for (int edge = 0; edge < EDGES; edge++) {
                    int index = size * SHOWN_EDGES + orientation * EDGES + edge;
                    profiles.set(index, draft.profile(orientation, edge));
                    lines.set(index, draft.line(orientation, edge));
                }
            }
            size++;
        }

        void remove(int scrap) {
            if (scrap < 0 || scrap >= size) {
                return;
            }
            kinds.cut(scrap, 1);
            profiles.cut(scrap * SHOWN_EDGES, SHOWN_EDGES);
            lines.cut(scrap * SHOWN_EDGES, SHOWN_EDGES);
            size--;
        }

        void copy(Scraps other) {
            kinds.copy(other.kinds);
            profiles.copy(other.profiles);
            lines.copy(other.lines);
            size = other.size;
        }
    }

    /** The page: its size, and where and how scraps lie on it. */
    private static final class Page {
        private final Row places = new Row(MOST_SCRAPS);
        private final Row orientations = new Row(MOST_SCRAPS);
        private final Row lying = new Row(MOST_SIDE * MOST_SIDE);
        private int width;
        private int height;

        Page() {
            clear(FIRST_SIDE, FIRST_SIDE);
        }

        int width() {
            return width;
        }

        int height() {
            return height;
        }

        int places() {
            return width * height;
        }

        boolean lies(int scrap) {
            return places.get(scrap) != NONE;
        }

        int placeOf(int scrap) {
            return places.get(scrap);
        }

        int orientationOf(int scrap) {
            return orientations.get(scrap);
        }

        int scrapAt(int place) {
            return lying.get(place);
        }

        void clear(int newWidth, int newHeight) {
            width = newWidth;
            height = newHeight;
            places.setAll(NONE);
            orientations.setAll(0);
            lying.setAll(NONE);
        }

        void put(int scrap, int place, int orientation) {
            places.set(scrap, place);
            orientations.set(scrap, orientation);
            lying.set(place, scrap);
        }

        void take(int scrap) {
            lying.set(places.get(scrap), NONE);
            places.set(scrap, NONE);
            orientations.set(scrap, 0);
        }

        /** Takes a scrap away for good: the numbers of the later ones decrease by 1. */
        void remove(int scrap) {
            places.cut(scrap, 1);
            places.set(MOST_SCRAPS - 1, NONE);
            orientations.cut(scrap, 1);
            orientations.set(MOST_SCRAPS - 1, 0);
            lying.setAll(NONE);
            for (int later = 0; later < MOST_SCRAPS; later++) {
                lying.set(places.get(later), later);
            }
        }

        void copy(Page other) {
            width = other.width;
            height = other.height;
            places.copy(other.places);
            orientations.copy(other.orientations);
            lying.copy(other.lying);
        }

        /** The place behind an edge of a place, or NONE if the border of the page is there. */
        int behind(int place, int edge) {
            int column = width > 0 ? place % width : 0;
            switch (edge) {
                case TOP:
                    return place >= width ? place - width : NONE;
                case RIGHT:
                    return column + 1 < width ? place + 1 : NONE;
                case BOTTOM:
                    return place + width < places() ? place + width : NONE;
                default:
                    return column > 0 ? place - 1 : NONE;
            }
        }
    }

    /** What a state of the history holds: the scraps and the page. */
    private static final class Desk {
        private final Scraps scraps = new Scraps();
        private final Page page = new Page();

        void copy(Desk other) {
            scraps.copy(other.scraps);
            page.copy(other.page);
        }

        void remove(int scrap) {
            scraps.remove(scrap);
            page.remove(scrap);
        }

        int countLying() {
            int count = 0;
            for (int scrap = 0; scrap < scraps.size(); scrap++) {
                if (page.lies(scrap)) {
                    count++;
                }
            }
            return count;
        }

        /** The other scrap that lies behind an edge of a place, or NONE. */
        int neighbour(int scrap, int place, int edge) {
            int other = page.scrapAt(page.behind(place, edge));
            return other == scrap ? NONE : other;
        }

        /** The reason of an edge of a scrap at a place, were it there; NONE if nothing lies behind it. */
        int verdict(int scrap, int place, int orientation, int edge) {
            int profile = scraps.profile(scrap, orientation, edge);
            int behind = page.behind(place, edge);
            if (behind == NONE) {
                return profile == STRAIGHT ? FITS : BORDER_NOT_STRAIGHT;
            }
            int other = page.scrapAt(behind);
            if (other == NONE || other == scrap) {
                return NONE;
            }
            int otherOrientation = page.orientationOf(other);
            int otherEdge = (edge + 2) & 3;
            int otherProfile = scraps.profile(other, otherOrientation, otherEdge);
            if (profile == STRAIGHT || otherProfile == STRAIGHT) {
                return EDGE_IS_STRAIGHT;
            }
            // No sum of two digits is 19, so 999 comes only from three times 9.
            if (profile + otherProfile != MOST_PROFILE) {
                return PROFILES_DIFFER;
            }
            int line = scraps.line(scrap, orientation, edge);
            return line == scraps.line(other, otherOrientation, otherEdge) ? FITS : LINES_DIFFER;
        }

        boolean canLie(int scrap, int place, int orientation) {
            for (int edge = 0; edge < EDGES; edge++) {
                if (verdict(scrap, place, orientation, edge) > FITS) {
                    return false;
                }
            }
            return true;
        }

        int countWays(int scrap, int place) {
            int count = 0;
            for (int orientation = 0; orientation < ORIENTATIONS; orientation++) {
                if (canLie(scrap, place, orientation)) {
                    count++;
                }
            }
            return count;
        }

        int seamsAt(int scrap, int place) {
            int count = 0;
            for (int edge = 0; edge < EDGES; edge++) {
                if (neighbour(scrap, place, edge) != NONE) {
                    count++;
                }
            }
            return count;
        }

        int countFits(int scrap) {
            int count = 0;
            for (int edge = 0; edge < EDGES; edge++) {
                if (verdictOnPage(scrap, edge) == FITS) {
                    count++;
                }
            }
            return count;
        }

        int countFaults(int scrap) {
            int count = 0;
            for (int edge = 0; edge < EDGES; edge++) {
                if (verdictOnPage(scrap, edge) > FITS) {
                    count++;
                }
            }
            return count;
        }

        private int verdictOnPage(int scrap, int edge) {
            int place = page.placeOf(scrap);
            return place == NONE ? NONE : verdict(scrap, place, page.orientationOf(scrap), edge);
        }

        /** The scrap behind an edge of a scrap on the page, or NONE. */
        int neighbourOnPage(int scrap, int edge) {
            int place = page.placeOf(scrap);
            return place == NONE ? NONE : neighbour(scrap, place, edge);
        }

        boolean isJoined(int scrap, int edge) {
            int place = page.placeOf(scrap);
            return place != NONE && page.behind(place, edge) != NONE
                    && verdict(scrap, place, page.orientationOf(scrap), edge) == FITS;
        }

        // Each seam is the right or the bottom edge of just one scrap.

        int countSeams() {
            int count = 0;
            for (int scrap = 0; scrap < scraps.size(); scrap++) {
                for (int edge = RIGHT; edge <= BOTTOM; edge++) {
                    if (neighbourOnPage(scrap, edge) != NONE) {
                        count++;
                    }
                }
            }
            return count;
        }

        int countFittingSeams() {
            int count = 0;
            for (int scrap = 0; scrap < scraps.size(); scrap++) {
                for (int edge = RIGHT; edge <= BOTTOM; edge++) {
                    if (isJoined(scrap, edge)) {
                        count++;
                    }
                }
            }
            return count;
        }

        int countBorderEdges(int wanted) {
            int count = 0;
            for (int scrap = 0; scrap < scraps.size(); scrap++) {
                for (int edge = 0; edge < EDGES; edge++) {
                    if (isAtBorder(scrap, edge) && verdictOnPage(scrap, edge) == wanted) {
                        count++;
                    }
                }
            }
            return count;
        }

        private boolean isAtBorder(int scrap, int edge) {
            return page.lies(scrap) && page.behind(page.placeOf(scrap), edge) == NONE;
        }

        /** 10 times the place plus the orientation with the most seams, or NONE. */
        int bestPlace(int scrap) {
            int best = NONE;
            int mostSeams = NONE;
            for (int place = 0; place < page.places(); place++) {
                int seams = page.scrapAt(place) == NONE ? seamsAt(scrap, place) : NONE;
                for (int orientation = 0; orientation < ORIENTATIONS && seams > mostSeams;
                        orientation++) {
                    if (canLie(scrap, place, orientation)) {
                        best = place * 10 + orientation;
                        mostSeams = seams;
                    }
                }
            }
            return best;
        }

        /** Lays the lowest scrap that can be laid, and tells whether there was one. */
        boolean layNext() {
            for (int scrap = 0; scrap < scraps.size(); scrap++) {
                int best = page.lies(scrap) ? NONE : bestPlace(scrap);
                if (best != NONE) {
                    page.put(scrap, best / 10, best % 10);
                    return true;
                }
            }
            return false;
        }
    }

    /** The latest states, in rows that are made once and used in a ring. */
    private static final class History {
        private final Desk[] states;
        private int oldest;
        private int size;

        History() {
            states = new Desk[MOST_STATES];
            for (int index = 0; index < states.length; index++) {
                states[index] = new Desk();
            }
        }

        int size() {
            return size;
        }

        void keep(Desk desk) {
            if (size >= MOST_STATES) {
                oldest = (oldest + 1) % MOST_STATES;
                size--;
            }
            Desk free = state(size);
            if (free != null) {
                free.copy(desk);
                size++;
            }
        }

        void restore(Desk desk) {
            Desk latest = state(size - 1);
            if (latest != null) {
                desk.copy(latest);
                size--;
            }
        }

        private Desk state(int index) {
            int ring = (oldest + index) % MOST_STATES;
            return index >= 0 && ring >= 0 && ring < states.length ? states[ring] : null;
        }
    }

    /** The groups of a desk, told by the lowest scrap of each. */
    private static final class Groups {
        private final Row lowest = new Row(MOST_SCRAPS);
        private int scraps;

        /** A round takes a group's lowest number over one seam more at least: rounds as scraps suffice. */
        void gather(Desk desk) {
            scraps = desk.scraps.size();
            for (int scrap = 0; scrap < scraps; scrap++) {
                lowest.set(scrap, desk.page.lies(scrap) ? scrap : NONE);
            }
            for (int round = 0; round < scraps; round++) {
                for (int scrap = 0; scrap < scraps; scrap++) {
                    join(desk, scrap, RIGHT);
                    join(desk, scrap, BOTTOM);
                }
            }
        }

        private void join(Desk desk, int scrap, int edge) {
            if (desk.isJoined(scrap, edge)) {
                int other = desk.neighbourOnPage(scrap, edge);
                int low = Math.min(lowest.get(scrap), lowest.get(other));
                lowest.set(scrap, low);
                lowest.set(other, low);
            }
        }

        int size() {
            return countBelow(scraps);
        }

        int groupOf(int scrap) {
            return countBelow(lowest.get(scrap));
        }

        private int countBelow(int bound) {
            int count = 0;
            for (int scrap = 0; scrap < bound && scrap < scraps; scrap++) {
                if (lowest.get(scrap) == scrap) {
                    count++;
                }
            }
            return count;
        }

        /** The scrap of a group with an index, or NONE. */
        int scrapOf(int group, int index) {
            int passed = 0;
            for (int scrap = 0; scrap < scraps; scrap++) {
                if (lowest.get(scrap) != NONE && groupOf(scrap) == group) {
                    if (passed == index) {
                        return scrap;
                    }
                    passed++;
                }
            }
            return NONE;
        }
    }

    /** The text, and its reading as a scrap: after the first fault nothing more is taken. */
    private static final class Text {
        private final Row signs = new Row(MOST_CHARACTERS);
        private final Draft draft = new Draft();
        private int length;
        private int position;
        private boolean sound;

        int length() {
            return length;
        }

        int position() {
            return position;
        }

        boolean isSound() {
            return sound;
        }

        Draft draft() {
            return draft;
        }

        void append(int character) {
            if (length < MOST_CHARACTERS) {
                signs.set(length, character);
                length++;
            }
        }

        void clear() {
            length = 0;
        }

        void read() {
            position = 0;
            sound = true;
            for (int edge = 0; edge < EDGES; edge++) {
                if (edge > 0) {
                    takeSign(',');
                }
                takeEdge(edge);
            }
            takeSign(';');
            draft.setKind(takeDigit(1));
            sound = sound && position == length;
        }

        private void takeEdge(int edge) {
            boolean straight = next() == '-';
            int profile = STRAIGHT;
            if (straight) {
                takeSign('-');
            } else {
                profile = takeDigit(9) * 100;
                profile += takeDigit(9) * 10;
                profile += takeDigit(9);
            }
            takeSign('/');
            draft.setEdge(edge, profile, takeDigit(straight ? 0 : 9));
        }

        private void takeSign(char sign) {
            sound = sound && next() == sign;
            if (sound) {
                position++;
            }
        }

        private int takeDigit(int highest) {
            int digit = next() - '0';
            sound = sound && digit >= 0 && digit <= highest;
            if (!sound) {
                return 0;
            }
            position++;
            return digit;
        }

        /** The next sign, or NONE at the end of the text. */
        private int next() {
            return position < length ? signs.get(position) : NONE;
        }
    }
}
