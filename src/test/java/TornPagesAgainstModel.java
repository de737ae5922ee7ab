import java.util.ArrayDeque;
import java.util.ArrayList;
import java.util.Arrays;
import java.util.Deque;
import java.util.HashSet;
import java.util.List;
import java.util.Set;
import java.util.TreeSet;
import java.util.regex.Matcher;
import java.util.regex.Pattern;

/**
 * Random runs of 512 calls on the class and on a slow model that is written from the document in
 * another way: edges as texts that are turned quarter by quarter, a grid, and a regular expression.
 */
public final class TornPagesAgainstModel {
    private static final int RUNS = 3000;
    private static final int CALLS = 512;

    public static void main(String[] args) {
        int runs = args.length > 0 ? Integer.parseInt(args[0]) : RUNS;
        int wrong = 0;
        for (int run = 1; run <= runs && wrong < 5; run++) {
            String fault = new Run(run).play();
            if (fault != null) {
                wrong++;
                System.out.println("run " + run + ": " + fault);
            }
        }
        System.out.println(wrong == 0 ? runs + " random runs agree with the model"
                : "the class and the model differ");
        if (wrong != 0) {
            System.exit(1);
        }
    }

    /** One run; the numbers come from its own generator, so that each run is the same each time. */
    private static final class Run {
        private final TornPages real = new TornPages();
        private final Model model = new Model();
        private final StringBuilder latest = new StringBuilder();
        private final int style;
        private long seed;
        private int calls = 0;
        private String fault = null;

        Run(int number) {
            seed = number * 0x9E3779B97F4A7C15L;
            style = number % 4;
        }

        int below(int bound) {
            seed = seed * 6364136223846793005L + 1442695040888963407L;
            return (int) ((seed >>> 33) % bound);
        }

        boolean once(int in) {
            return below(in) == 0;
        }

        String play() {
            if (style > 0) {
                tearPage();
            }
            while (fault == null && calls < CALLS) {
                randomCall();
            }
            return fault;
        }

        void same(String call, int got, int want) {
            calls++;
            latest.append(call).append(" -> ").append(got).append('\n');
            // What is answered after the last call is free.
            if (got != want && fault == null && calls <= CALLS) {
                fault = call + " answered " + got + ", the model " + want + "\n" + latest;
            }
        }

        void write(String text) {
            same("clearText()", real.clearText(), model.clearText());
            for (int i = 0; i < text.length(); i++) {
                int c = text.charAt(i);
                same("type(" + c + ")", real.type(c), model.type(c));
            }
        }

        /** A page that fits, torn; each scrap is turned, and now and then one edge is spoiled. */
        void tearPage() {
            int[][] sizes = {{2, 2}, {3, 2}, {2, 3}, {1, 6}, {6, 1}, {5, 1}, {1, 4}, {3, 3},
                {4, 3}, {1, 1}, {2, 1}};
            int[] size = sizes[below(sizes.length)];
            int w = size[0];
            int h = size[1];
            same("reset", real.reset(w, h), model.reset(w, h));
            Piece[] pieces = new Piece[w * h];
            for (int p = 0; p < pieces.length; p++) {
                pieces[p] = new Piece();
                pieces[p].bothSides = once(2);
            }
            for (int p = 0; p < pieces.length; p++) {
                if (p % w + 1 < w) {
                    tear(pieces[p], 1, pieces[p + 1], 3);
                }
                if (p + w < pieces.length) {
                    tear(pieces[p], 2, pieces[p + w], 0);
                }
            }
            for (int p = pieces.length - 1; p >= 0; p--) {
                int orientation = pieces[p].bothSides ? below(8) : below(4);
                Piece told = pieces[p].shown(orientation);
                if (once(style == 3 ? 3 : 12)) {
                    told.lines[below(4)] = once(2) ? 0 : below(10);
                }
                write(told.text());
                same("add()", real.add(), model.add());
            }
            if (style == 3 && once(3)) {
                putTogether(pieces);
            }
        }

        /** Lays the scraps where they were torn from, whether they were spoiled or not. */
        void putTogether(Piece[] pieces) {
            for (int s = 0; s < pieces.length; s++) {
                int place = pieces.length - 1 - s;
                Piece told = model.pieces.get(s);
                int orientation = 0;
                while (orientation < 7
                        && !Arrays.equals(told.shown(orientation).steps, pieces[place].steps)) {
                    orientation++;
                }
                int o = orientation;
                same("force(" + s + ", " + place + ", " + o + ")",
                        real.force(s, place, o), model.force(s, place, o));
            }
            for (int place = 0; place < pieces.length; place++) {
                int edge = below(4);
                same("reason(" + place + ", " + edge + ")",
                        real.reason(place, edge), model.reason(place, edge));
            }
            askAll();
        }

        void tear(Piece one, int edge, Piece other, int otherEdge) {
            String steps = once(3) ? "444" : once(3) ? "567" : "" + (100 + below(900));
            StringBuilder others = new StringBuilder();
            for (int i = 0; i < 3; i++) {
                others.append((char) ('0' + '9' - steps.charAt(i)));
            }
            int line = once(2) ? 0 : below(10);
            one.steps[edge] = steps;
            other.steps[otherEdge] = others.toString();
            one.lines[edge] = line;
            other.lines[otherEdge] = line;
        }

        int profile() {
            int[] often = {-1, -1, -1, 444, 555, 123, 876, 321, 678, 12, 987, 210, 789, 0, 999};
            return once(30) ? wild(999) : often[below(often.length)];
        }

        /** Mostly a number from 0 to the highest, sometimes one that is out of range. */
        int number(int highest) {
            return once(25) ? wild(highest) : below(highest + 1);
        }

        int wild(int highest) {
            int[] numbers = {-1, -2, highest, highest + 1, highest + 2, Integer.MAX_VALUE,
                Integer.MIN_VALUE, 1 << 16, -1000};
            return numbers[below(numbers.length)];
        }

        int aScrap() {
            return number(Math.max(0, model.pieces.size() - 1));
        }

        int aPlace() {
            return number(model.width * model.height - 1);
        }

        void randomCall() {
            int roll = below(100);
            if (roll < 50) {
                ask();
            } else if (roll < 80) {
                move();
            } else if (roll < 90 || style > 1 && !once(8)) {
                askAll();
            } else {
                remake();
            }
        }

        void ask() {
            int a = aScrap();
            int b = aPlace();
            int c = number(7);
            int d = number(3);
            switch (below(10)) {
                case 0:
                    int e = number(5);
                    same("scrap(" + a + ", " + e + ")", real.scrap(a, e), model.scrap(a, e));
                    break;
                case 1:
                    int f = number(1);
                    same("edge(" + a + ", " + c + ", " + d + ", " + f + ")",
                            real.edge(a, c, d, f), model.edge(a, c, d, f));
                    break;
                case 2:
                    int g = number(11);
                    same("count(" + g + ")", real.count(g), model.count(g));
                    break;
                case 3:
                    same("at(" + b + ")", real.at(b), model.at(b));
                    break;
                case 4:
                    same("reason(" + b + ", " + d + ")", real.reason(b, d), model.reason(b, d));
                    break;
                case 5:
                    same("ways(" + a + ", " + b + ")", real.ways(a, b), model.ways(a, b));
                    break;
                case 6:
                    same("bestFor(" + a + ")", real.bestFor(a), model.bestFor(a));
                    break;
                case 7:
                    int i = number(4);
                    same("member(" + d + ", " + i + ")", real.member(d, i), model.member(d, i));
                    break;
                case 8:
                    same("canFill()", real.canFill(), model.canFill());
                    break;
                default:
                    same("fault()", real.fault(), model.fault());
                    break;
            }
        }

        void askAll() {
            for (int what = 0; what < 12 && calls < CALLS; what++) {
                same("count(" + what + ")", real.count(what), model.count(what));
            }
            for (int what = 0; what < 6 && calls < CALLS; what++) {
                int a = aScrap();
                same("scrap(" + a + ", " + what + ")", real.scrap(a, what), model.scrap(a, what));
            }
        }

        void move() {
            int a = aScrap();
            int b = aPlace();
            int c = number(7);
            switch (below(8)) {
                case 0:
                case 1:
                    lay(a, b, c);
                    break;
                case 2:
                case 3:
                    int best = model.bestFor(a);
                    same("bestFor(" + a + ")", real.bestFor(a), best);
                    if (best >= 0) {
                        lay(a, best / 10, best % 10);
                    }
                    break;
                case 4:
                    same("force(" + a + ", " + b + ", " + c + ")",
                            real.force(a, b, c), model.force(a, b, c));
                    break;
                case 5:
                    same("lift(" + a + ")", real.lift(a), model.lift(a));
                    break;
                case 6:
                    same("turn(" + a + ", " + c + ")", real.turn(a, c), model.turn(a, c));
                    break;
                default:
                    if (once(4)) {
                        same("fill()", real.fill(), model.fill());
                    } else {
                        same("undo()", real.undo(), model.undo());
                    }
                    break;
            }
        }

        void lay(int scrap, int place, int orientation) {
            same("lay(" + scrap + ", " + place + ", " + orientation + ")",
                    real.lay(scrap, place, orientation), model.lay(scrap, place, orientation));
        }

        void remake() {
            switch (below(6)) {
                case 0:
                    int w = 1 + number(5);
                    int h = 1 + number(5);
                    same("reset(" + w + ", " + h + ")", real.reset(w, h), model.reset(w, h));
                    break;
                case 1:
                case 2:
                    addScrap();
                    break;
                case 3:
                    int a = aScrap();
                    same("removeScrap(" + a + ")", real.removeScrap(a), model.removeScrap(a));
                    break;
                case 4:
                    writeSome();
                    break;
                default:
                    same("add()", real.add(), model.add());
                    break;
            }
        }

        void addScrap() {
            int top = profile();
            int right = profile();
            int bottom = profile();
            int left = profile();
            int kind = number(1);
            same("addScrap(" + top + ", " + right + ", " + bottom + ", " + left + ", " + kind + ")",
                    real.addScrap(top, right, bottom, left, kind),
                    model.addScrap(top, right, bottom, left, kind));
        }

        void writeSome() {
            StringBuilder text = new StringBuilder();
            for (int edge = 0; edge < 4; edge++) {
                int profile = Math.floorMod(profile() + 1, 1000) - 1;
                text.append(edge > 0 ? "," : "");
                text.append(profile < 0 ? "-/0" : String.format("%03d/%d", profile, below(10)));
            }
            text.append(';').append(below(2));
            for (int spoiled = below(3); spoiled > 0; spoiled--) {
                String signs = "-/,;0129: x~";
                text.setCharAt(below(text.length()), signs.charAt(below(signs.length())));
            }
            if (once(4)) {
                text.setLength(below(text.length()));
            }
            if (once(20)) {
                text.append(";0123456789012345678901234567890123456789012345678901234567890");
            }
            write(text.toString());
            same("fault()", real.fault(), model.fault());
            same("add()", real.add(), model.add());
            int wild = once(3) ? wild(126) : 30 + below(99);
            same("type(" + wild + ")", real.type(wild), model.type(wild));
        }
    }

    private static final class Piece {
        String[] steps = new String[4];
        int[] lines = new int[4];
        boolean bothSides;
        int x = -1;
        int y = -1;
        int orientation = 0;

        Piece copy() {
            Piece copy = new Piece();
            copy.steps = steps.clone();
            copy.lines = lines.clone();
            copy.bothSides = bothSides;
            copy.x = x;
            copy.y = y;
            copy.orientation = orientation;
            return copy;
        }

        boolean lies() {
            return x >= 0;
        }

        Piece shown(int o) {
            Piece p = copy();
            if (o >= 4) {
                p.steps = new String[] {back(steps[0]), steps[3], back(steps[2]), steps[1]};
                p.lines = bothSides ? new int[] {lines[0], lines[3], lines[2], lines[1]}
                        : new int[4];
            }
            for (int quarter = 0; quarter < o % 4; quarter++) {
                String[] s = p.steps;
                int[] l = p.lines;
                p.steps = new String[] {back(s[3]), s[0], back(s[1]), s[2]};
                p.lines = new int[] {l[3], l[0], l[1], l[2]};
            }
            return p;
        }

        static String back(String steps) {
            return steps == null ? null : new StringBuilder(steps).reverse().toString();
        }

        String text() {
            StringBuilder text = new StringBuilder();
            for (int edge = 0; edge < 4; edge++) {
                text.append(edge > 0 ? "," : "").append(steps[edge] == null ? "-" : steps[edge]);
                text.append('/').append(steps[edge] == null ? 0 : lines[edge]);
            }
            return text.append(';').append(bothSides ? 1 : 0).toString();
        }
    }

    private static final class State {
        List<Piece> pieces;
        int width;
        int height;
    }

    private static final class Model {
        private static final int INVALID = -1001;
        private static final int NOT_POSSIBLE = -1002;
        private static final int LIMIT = -1003;
        private static final int NOT_FOUND = -1004;
        private static final int[] DX = {0, 1, 0, -1};
        private static final int[] DY = {-1, 0, 1, 0};
        private static final Pattern SCRAP =
                Pattern.compile("(?:(?:-/0|[0-9]{3}/[0-9]),){3}(?:-/0|[0-9]{3}/[0-9]);[01]");

        List<Piece> pieces = new ArrayList<>();
        int width = 4;
        int height = 4;
        String text = "";
        final Deque<State> history = new ArrayDeque<>();

        void change() {
            State state = new State();
            state.pieces = new ArrayList<>();
            for (Piece p : pieces) {
                state.pieces.add(p.copy());
            }
            state.width = width;
            state.height = height;
            history.addLast(state);
            if (history.size() == 6) {
                history.removeFirst();
            }
        }

        boolean noScrap(int s) {
            return s < 0 || s >= pieces.size();
        }

        boolean noPlace(int p) {
            return p < 0 || p >= width * height;
        }

        Piece lyingAt(int x, int y) {
            for (Piece p : pieces) {
                if (p.x == x && p.y == y && p.lies()) {
                    return p;
                }
            }
            return null;
        }

        boolean outside(int x, int y) {
            return x < 0 || y < 0 || x >= width || y >= height;
        }

        /** The reason, or -1 if nothing lies behind. */
        int judge(Piece piece, int x, int y, int o, int edge) {
            Piece mine = piece.shown(o);
            int nx = x + DX[edge];
            int ny = y + DY[edge];
            if (outside(nx, ny)) {
                return mine.steps[edge] == null ? 0 : 4;
            }
            Piece other = lyingAt(nx, ny);
            if (other == null || other == piece) {
                return -1;
            }
            Piece theirs = other.shown(other.orientation);
            int facing = (edge + 2) % 4;
            if (mine.steps[edge] == null || theirs.steps[facing] == null) {
                return 1;
            }
            for (int i = 0; i < 3; i++) {
                if (mine.steps[edge].charAt(i) - '0' + theirs.steps[facing].charAt(i) - '0' != 9) {
                    return 2;
                }
            }
            return mine.lines[edge] == theirs.lines[facing] ? 0 : 3;
        }

        boolean canBeLaid(Piece piece, int x, int y, int o) {
            for (int edge = 0; edge < 4; edge++) {
                if (judge(piece, x, y, o, edge) > 0) {
                    return false;
                }
            }
            return true;
        }

        int tally(Piece piece, boolean fitting) {
            int count = 0;
            for (int edge = 0; edge < 4; edge++) {
                int reason = judge(piece, piece.x, piece.y, piece.orientation, edge);
                count += fitting && reason == 0 || !fitting && reason > 0 ? 1 : 0;
            }
            return count;
        }

        int seams(Piece piece, int x, int y) {
            int count = 0;
            for (int edge = 0; edge < 4; edge++) {
                boolean inside = !outside(x + DX[edge], y + DY[edge]);
                count += inside && judge(piece, x, y, 0, edge) >= 0 ? 1 : 0;
            }
            return count;
        }

        List<List<Integer>> groups() {
            List<List<Integer>> groups = new ArrayList<>();
            Set<Piece> seen = new HashSet<>();
            for (Piece start : pieces) {
                if (start.lies() && !seen.contains(start)) {
                    TreeSet<Integer> group = new TreeSet<>();
                    Deque<Piece> todo = new ArrayDeque<>(List.of(start));
                    seen.add(start);
                    while (!todo.isEmpty()) {
                        Piece p = todo.remove();
                        group.add(pieces.indexOf(p));
                        for (int edge = 0; edge < 4; edge++) {
                            Piece q = lyingAt(p.x + DX[edge], p.y + DY[edge]);
                            if (q != null && judge(p, p.x, p.y, p.orientation, edge) == 0
                                    && seen.add(q)) {
                                todo.add(q);
                            }
                        }
                    }
                    groups.add(new ArrayList<>(group));
                }
            }
            return groups;
        }

        int lying() {
            int count = 0;
            for (Piece p : pieces) {
                count += p.lies() ? 1 : 0;
            }
            return count;
        }

        int reset(int w, int h) {
            if (w < 1 || w > 6 || h < 1 || h > 6) {
                return INVALID;
            }
            int count = lying();
            change();
            width = w;
            height = h;
            for (Piece p : pieces) {
                p.x = -1;
                p.y = -1;
                p.orientation = 0;
            }
            return count;
        }

        int addScrap(int top, int right, int bottom, int left, int kind) {
            int[] told = {top, right, bottom, left};
            Piece p = new Piece();
            for (int edge = 0; edge < 4; edge++) {
                if (told[edge] < -1 || told[edge] > 999) {
                    return INVALID;
                }
                p.steps[edge] = told[edge] < 0 ? null : String.format("%03d", told[edge]);
            }
            if (kind < 0 || kind > 1) {
                return INVALID;
            }
            if (pieces.size() == 12) {
                return LIMIT;
            }
            change();
            p.bothSides = kind == 1;
            pieces.add(p);
            return pieces.size() - 1;
        }

        int add() {
            if (!SCRAP.matcher(text).matches()) {
                return NOT_POSSIBLE;
            }
            if (pieces.size() == 12) {
                return LIMIT;
            }
            change();
            String[] parts = text.split("[,;]");
            Piece p = new Piece();
            for (int edge = 0; edge < 4; edge++) {
                String[] sides = parts[edge].split("/");
                p.steps[edge] = sides[0].equals("-") ? null : sides[0];
                p.lines[edge] = Integer.parseInt(sides[1]);
            }
            p.bothSides = parts[4].equals("1");
            pieces.add(p);
            return pieces.size() - 1;
        }

        int removeScrap(int s) {
            if (noScrap(s)) {
                return INVALID;
            }
            change();
            pieces.remove(s);
            return pieces.size();
        }

        int scrap(int s, int what) {
            if (noScrap(s) || what < 0 || what > 5) {
                return INVALID;
            }
            Piece p = pieces.get(s);
            if (what == 0) {
                return p.bothSides ? 1 : 0;
            }
            if (what == 1) {
                return p.lies() ? p.orientation : 0;
            }
            if (!p.lies()) {
                return NOT_FOUND;
            }
            if (what == 2) {
                return p.y * width + p.x;
            }
            if (what == 3) {
                List<List<Integer>> groups = groups();
                for (int g = 0; g < groups.size(); g++) {
                    if (groups.get(g).contains(s)) {
                        return g;
                    }
                }
            }
            return tally(p, what == 4);
        }

        int edge(int s, int o, int edge, int what) {
            if (noScrap(s) || o < 0 || o > 7 || edge < 0 || edge > 3 || what < 0 || what > 1) {
                return INVALID;
            }
            Piece p = pieces.get(s).shown(o);
            if (what == 1) {
                return p.lines[edge];
            }
            return p.steps[edge] == null ? -1 : Integer.parseInt(p.steps[edge]);
        }

        int undo() {
            if (history.isEmpty()) {
                return NOT_POSSIBLE;
            }
            State state = history.removeLast();
            pieces = state.pieces;
            width = state.width;
            height = state.height;
            return history.size();
        }

        int count(int what) {
            int[] seams = new int[5];
            int fitting = 0;
            int all = 0;
            for (Piece p : pieces) {
                for (int edge = 0; edge < 4 && p.lies(); edge++) {
                    int reason = judge(p, p.x, p.y, p.orientation, edge);
                    if (outside(p.x + DX[edge], p.y + DY[edge])) {
                        seams[reason]++;
                    } else if (reason >= 0) {
                        all++;
                        fitting += reason == 0 ? 1 : 0;
                    }
                }
            }
            int[] answers = {pieces.size(), lying(), width, height, groups().size(), all / 2,
                fitting / 2, seams[0], seams[4], width * height - lying(), history.size(),
                text.length()};
            return what < 0 || what > 11 ? INVALID : answers[what];
        }

        int place(int s, int place, int o, boolean anyhow) {
            if (noScrap(s) || noPlace(place) || o < 0 || o > 7) {
                return INVALID;
            }
            Piece p = pieces.get(s);
            int x = place % width;
            int y = place / width;
            if (p.lies() || lyingAt(x, y) != null || !anyhow && !canBeLaid(p, x, y, o)) {
                return NOT_POSSIBLE;
            }
            change();
            p.x = x;
            p.y = y;
            p.orientation = o;
            return anyhow ? tally(p, false) : seams(p, x, y);
        }

        int lay(int s, int place, int o) {
            return place(s, place, o, false);
        }

        int force(int s, int place, int o) {
            return place(s, place, o, true);
        }

        int lift(int s) {
            if (noScrap(s)) {
                return INVALID;
            }
            Piece p = pieces.get(s);
            if (!p.lies()) {
                return NOT_POSSIBLE;
            }
            change();
            int place = p.y * width + p.x;
            p.x = -1;
            p.y = -1;
            p.orientation = 0;
            return place;
        }

        int turn(int s, int o) {
            if (noScrap(s) || o < 0 || o > 7) {
                return INVALID;
            }
            Piece p = pieces.get(s);
            if (!p.lies()) {
                return NOT_POSSIBLE;
            }
            change();
            p.orientation = o;
            return tally(p, false);
        }

        int at(int place) {
            if (noPlace(place)) {
                return INVALID;
            }
            Piece p = lyingAt(place % width, place / width);
            return p == null ? NOT_FOUND : pieces.indexOf(p);
        }

        int reason(int place, int edge) {
            if (noPlace(place) || edge < 0 || edge > 3) {
                return INVALID;
            }
            Piece p = lyingAt(place % width, place / width);
            int reason = p == null ? -1 : judge(p, p.x, p.y, p.orientation, edge);
            return reason < 0 ? NOT_FOUND : reason;
        }

        int ways(int s, int place) {
            if (noScrap(s) || noPlace(place)) {
                return INVALID;
            }
            Piece p = pieces.get(s);
            int x = place % width;
            int y = place / width;
            Piece there = lyingAt(x, y);
            if (there != null && there != p) {
                return NOT_POSSIBLE;
            }
            int count = 0;
            for (int o = 0; o < 8; o++) {
                count += canBeLaid(p, x, y, o) ? 1 : 0;
            }
            return count;
        }

        int bestFor(int s) {
            if (noScrap(s)) {
                return INVALID;
            }
            Piece p = pieces.get(s);
            if (p.lies()) {
                return NOT_POSSIBLE;
            }
            for (int wanted = 4; wanted >= 0; wanted--) {
                for (int place = 0; place < width * height; place++) {
                    int x = place % width;
                    int y = place / width;
                    if (lyingAt(x, y) == null && seams(p, x, y) == wanted) {
                        for (int o = 0; o < 8; o++) {
                            if (canBeLaid(p, x, y, o)) {
                                return place * 10 + o;
                            }
                        }
                    }
                }
            }
            return NOT_FOUND;
        }

        int fill() {
            change();
            int laid = 0;
            for (int s = 0; s < pieces.size(); s++) {
                int best = bestFor(s);
                if (best >= 0) {
                    Piece p = pieces.get(s);
                    p.x = best / 10 % width;
                    p.y = best / 10 / width;
                    p.orientation = best % 10;
                    laid++;
                    s = -1;
                }
            }
            return laid;
        }

        int member(int group, int index) {
            List<List<Integer>> groups = groups();
            if (group < 0 || group >= groups.size() || index < 0) {
                return INVALID;
            }
            List<Integer> members = groups.get(group);
            return index < members.size() ? members.get(index) : NOT_FOUND;
        }

        int canFill() {
            int places = width * height;
            if (places > 6 || pieces.size() != places) {
                return NOT_POSSIBLE;
            }
            Model empty = new Model();
            empty.width = width;
            empty.height = height;
            for (Piece p : pieces) {
                Piece q = p.copy();
                q.x = -1;
                q.y = -1;
                empty.pieces.add(q);
            }
            return empty.goesOn(0) ? 1 : 0;
        }

        /** Scrap by scrap, not place by place: each scrap tries all places that are left. */
        boolean goesOn(int s) {
            if (s == pieces.size()) {
                return true;
            }
            Piece p = pieces.get(s);
            for (int place = 0; place < width * height; place++) {
                int x = place % width;
                int y = place / width;
                for (int o = 0; o < 8 && lyingAt(x, y) == null; o++) {
                    if (canBeLaid(p, x, y, o)) {
                        p.x = x;
                        p.y = y;
                        p.orientation = o;
                        if (goesOn(s + 1)) {
                            return true;
                        }
                        p.x = -1;
                        p.y = -1;
                    }
                }
            }
            return false;
        }

        int type(int c) {
            if (c < 32 || c > 126) {
                return INVALID;
            }
            if (text.length() == 60) {
                return LIMIT;
            }
            text += (char) c;
            return text.length();
        }

        int clearText() {
            int length = text.length();
            text = "";
            return length;
        }

        int fault() {
            if (SCRAP.matcher(text).matches()) {
                return NOT_FOUND;
            }
            for (int length = 1; length <= text.length(); length++) {
                Matcher matcher = SCRAP.matcher(text.substring(0, length));
                if (!matcher.matches() && !matcher.hitEnd()) {
                    return length - 1;
                }
                if (matcher.matches() && length < text.length()) {
                    return length;
                }
            }
            return text.length();
        }
    }
}
