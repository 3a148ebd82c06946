import java.lang.reflect.InvocationTargetException;
import java.lang.reflect.Method;
import java.lang.reflect.Modifier;
import java.nio.file.Files;
import java.nio.file.Path;
import java.util.ArrayList;
import java.util.Arrays;
import java.util.List;
import java.util.Set;
import java.util.TreeMap;
import java.util.TreeSet;

/**
 * The boundary cases that the document names: each test bears its promise's number and says the sentence that
 * it holds. Every method without parameters whose name begins with "promise" is a test. With the document's
 * path as argument the sentences are looked up in it, too.
 */
public final class BoundaryTests {
    private static final String ARGUMENT = "IllegalArgumentException";
    private static final String STATE = "IllegalStateException";
    private static final String INDEX = "IndexOutOfBoundsException";

    private static final int LOW = -8192;
    private static final int HIGH = 8191;

    private static int wrong = 0;
    private static int asked = 0;
    private static String place = "";
    private static final TreeMap<String, Integer> SAID = new TreeMap<>();

    interface Make {
        StrokeRaster made();
    }

    interface Use {
        Object on(StrokeRaster s);
    }

    interface Order {
        void to(StrokeRaster s);
    }

    private static void says(int promise, String sentence) {
        place = "promise " + promise + ", \"" + sentence + "\"";
        SAID.put(sentence, promise);
    }

    private static void due(String what, Object got, Object want) {
        asked++;
        if (!got.equals(want)) {
            wrong++;
            System.out.println(place + ": " + what + ": " + got + ", due is " + want);
        }
    }

    private static String outcome(StrokeRaster s, Use use) {
        try {
            return String.valueOf(use.on(s));
        } catch (RuntimeException e) {
            return e.getClass().getSimpleName();
        }
    }

    private static Use order(Order order) {
        return s -> {
            order.to(s);
            return "nothing";
        };
    }

    /** The call throws, and from then on the object answers as one does that it was never asked of. */
    private static void refused(String what, String exception, Make make, Use use) {
        StrokeRaster once = make.made();
        due(what, outcome(once, use), exception);
        String untouched = probed(make.made());
        due(what + ", and nothing is changed", probed(once), untouched);
        StrokeRaster painted = make.made();
        painted.count(3);
        due(what + ", behind a question", outcome(painted, use), exception);
        due(what + ", behind a question, and nothing is changed", probed(painted), untouched);
    }

    /** All that can be seen of an object, first by questions alone, then by changes, too. */
    private static String probed(StrokeRaster s) {
        StringBuilder seen = new StringBuilder();
        seeStroke(s, seen);
        seen.append(outcome(s, t -> t.line(700, 3000))).append(' ');
        seen.append(outcome(s, t -> t.curve(3000, 700))).append(' ');
        seeStroke(s, seen);
        seen.append(outcome(s, t -> t.dash(90))).append(' ');
        seen.append(s.count(2)).append(' ').append(s.count(3)).append(' ');
        seen.append(s.plain(0)).append(' ');
        seen.append(s.count(2)).append(' ').append(s.count(3)).append(' ');
        seen.append(outcome(s, t -> t.close())).append(' ');
        seen.append(outcome(s, t -> t.move(5, 5))).append(' ');
        seen.append(s.clear()).append(' ').append(s.move(1000, 2000)).append(' ').append(s.curve(2000, 1000)).append(' ');
        seeStroke(s, seen);
        return seen.toString();
    }

    private static void seeStroke(StrokeRaster s, StringBuilder seen) {
        for (int what = -1; what <= 4; what++) {
            seen.append(s.count(what)).append(' ');
        }
        for (int r = 0; r < 64; r++) {
            seen.append(s.row(r)).append(' ');
        }
        for (int i = 0; i < 8; i++) {
            seen.append(s.share(8 * i, 60 - 7 * i)).append(' ').append(s.has(640 * i, 4000 - 512 * i)).append(' ');
        }
    }

    private static StrokeRaster lined(int width, int caps, int x, int y, int u, int v) {
        StrokeRaster s = new StrokeRaster();
        s.pen(width, caps, 0, 640);
        s.move(x, y);
        s.line(u, v);
        return s;
    }

    private static StrokeRaster cornered(int width, int joins, int limit, int... xy) {
        StrokeRaster s = new StrokeRaster();
        s.pen(width, 0, joins, limit);
        s.move(xy[0], xy[1]);
        for (int i = 2; i + 1 < xy.length; i += 2) {
            s.line(xy[i], xy[i + 1]);
        }
        return s;
    }

    private static void dash(StrokeRaster s, int phase, int... lengths) {
        s.plain(phase);
        for (int length : lengths) {
            s.dash(length);
        }
    }

    /** A horizontal line of 1000 units, so that dashes end at whole coordinates. */
    private static StrokeRaster dashed(int caps, int phase, int... lengths) {
        StrokeRaster s = lined(64, caps, 0, 640, 1000, 640);
        dash(s, phase, lengths);
        return s;
    }

    /** One subpath with so many points: a move, curves as long as sixteen points fit in, then lines. */
    private static StrokeRaster withPoints(int points) {
        StrokeRaster s = new StrokeRaster();
        s.control(100, 4000, 3000, 200);
        s.move(64, 64);
        int told = 1;
        while (told + 16 <= points) {
            told = s.curve(64 + told, 4000 - 2 * told);
        }
        while (told < points) {
            told = s.line(64 + told, 2000 + told);
        }
        return s;
    }

    private static StrokeRaster withSubpaths(int subpaths) {
        StrokeRaster s = new StrokeRaster();
        s.pen(20, 1, 1, 640);
        for (int i = 0; i < subpaths; i++) {
            s.move(60 * i, 60 * i);
        }
        return s;
    }

    /** A path with a closed subpath and an open one, a pen, dashes and controls, all of its own. */
    private static StrokeRaster rich() {
        StrokeRaster s = new StrokeRaster();
        s.pen(100, 2, 1, 300);
        s.control(300, 3900, 3700, 250);
        s.plain(77);
        s.dash(500);
        s.dash(130);
        s.move(200, 300);
        s.line(2500, 500);
        s.line(1500, 2900);
        s.close();
        s.move(3500, 3500);
        s.line(3000, 1500);
        s.curve(500, 3000);
        return s;
    }

    /** A dot of a width 1 holds a single point that can be asked for. */
    private static StrokeRaster dotted(int x, int y) {
        StrokeRaster s = new StrokeRaster();
        s.pen(1, 1, 1, 640);
        s.move(x, y);
        s.close();
        return s;
    }

    private static final int[][] OUTSIDE = {{LOW - 1, 0}, {HIGH + 1, 0}, {0, LOW - 1}, {0, HIGH + 1},
        {Integer.MIN_VALUE, 0}, {Integer.MAX_VALUE, 0}, {0, Integer.MIN_VALUE}, {0, Integer.MAX_VALUE},
        {LOW - 1, HIGH + 1}, {65536, 65536}, {-65536, 1}};

    private static final int[][] CORNERS = {{LOW, LOW}, {LOW, HIGH}, {HIGH, LOW}, {HIGH, HIGH}};

    // ---- promise 1

    private static void promise01NoPath() {
        says(1, "No path, no controls; the pen as said, without dashes, PHASE 0.");
        StrokeRaster s = new StrokeRaster();
        for (int what = 0; what <= 3; what++) {
            due("count " + what, s.count(what), 0);
        }
        for (int r = 0; r < 64; r++) {
            due("row " + r, s.row(r), 0L);
            due("share " + r, s.share(r, r), 0);
        }
        due("has", s.has(0, 0), false);
        due("line", outcome(s, t -> t.line(1, 1)), STATE);
        due("curve", outcome(s, t -> t.curve(1, 1)), STATE);
        due("close", outcome(s, t -> t.close()), STATE);
        due("clear", s.clear(), 0);
    }

    private static void promise01NoDashes() {
        says(1, "without dashes, PHASE 0");
        due("dashes", new StrokeRaster().plain(0), 0);
        StrokeRaster s = lined(64, 0, 0, 640, 1000, 640);
        due("a whole piece", s.count(2), 1);
        s.dash(100);
        due("on at the beginning", s.has(0, 640), true);
        due("up to the dash's end", s.has(100, 640), true);
        due("not beyond", s.has(101, 640), false);
    }

    private static void promise01Width() {
        says(1, "a WIDTH 1 .. 4096 (64 at first)");
        StrokeRaster s = new StrokeRaster();
        s.move(640, 640);
        s.line(1280, 640);
        due("the edge", s.has(1000, 672), true);
        due("beyond the edge", s.has(1000, 673), false);
        due("the other edge", s.has(1000, 608), true);
        due("beyond the other edge", s.has(1000, 607), false);
    }

    private static void promise01Half() {
        says(1, "H is 8 WIDTH.");
        StrokeRaster s = new StrokeRaster();
        s.move(1000, 0);
        s.line(1200, 4000);
        // the OFFSET is (511, -26): that is 640.4 / 20.02 units from the line, with an H of 513 it would be 641.6
        due("just in", s.has(1131, 1980), true);
        due("just out", s.has(1131, 1979), false);
    }

    private static void promise01Caps() {
        says(1, "CAPS 0 butt, 1 round, 2 square (0)");
        StrokeRaster s = new StrokeRaster();
        s.move(640, 640);
        s.line(1280, 640);
        due("the beginning", s.has(640, 640), true);
        due("before it", s.has(639, 640), false);
        due("the end", s.has(1280, 640), true);
        due("behind it", s.has(1281, 640), false);
    }

    private static void promise01Joins() {
        says(1, "JOINS 0 miter, 1 round, 2 bevel (0)");
        StrokeRaster s = new StrokeRaster();
        s.move(640, 640);
        s.line(1280, 640);
        s.line(1280, 1280);
        due("a miter's corner", s.has(1312, 608), true);
    }

    private static void promise01Limit() {
        says(1, "a LIMIT 64 .. 8192 (640)");
        StrokeRaster s = new StrokeRaster();
        s.move(0, 0);
        s.line(1000, 25);
        s.line(0, 199);
        // offsets (13, -512), (88, 504): H^2 + o . p is 5240, and 640 asks for 5243, 641 for 5227
        due("not more than 640", s.has(1300, 1), false);
        s.pen(64, 0, 0, 641);
        due("with 641", s.has(1300, 1), true);
        StrokeRaster t = new StrokeRaster();
        t.move(0, 0);
        t.line(1000, 13);
        t.line(0, 198);
        // offsets (7, -512), (93, 503): 5259, and 639 asks for 5260
        due("not less than 640", t.has(1300, -14), true);
        t.pen(64, 0, 0, 639);
        due("with 639", t.has(1300, -14), false);
    }

    private static void promise01ObjectsAreApart() {
        says(1, "No path, no controls");
        StrokeRaster s = rich();
        StrokeRaster t = new StrokeRaster();
        due("another one's path", t.count(0) + t.count(1) + t.count(2) + t.count(3), 0);
        due("another one's dashes", t.plain(0), 0);
        t.move(4096, 0);
        t.pen(1, 0, 1, 640);
        t.curve(0, 4096);
        // with controls 0 the points are (16 - k)^3, k^3
        due("another one's controls", t.has(512, 512), true);
        due("the first one's path", s.count(0), 2);
    }

    // ---- promise 2

    private static void promise02HowMany() {
        says(2, "A subpath begins: how many there are.");
        StrokeRaster s = new StrokeRaster();
        due("first", s.move(0, 0), 1);
        due("at the same place", s.move(0, 0), 2);
        s.close();
        due("behind a closed one", s.move(0, 0), 3);
        due("points", s.count(1), 3);
        s.clear();
        due("first again", s.move(0, 0), 1);
    }

    private static void promise02Begins() {
        says(2, "Each begins where one moves to");
        StrokeRaster s = lined(64, 0, 0, 640, 640, 640);
        s.move(1280, 640);
        s.line(1920, 640);
        due("no line by a move", s.has(960, 640), false);
        due("the first", s.has(320, 640), true);
        due("the second", s.has(1600, 640), true);
        due("behind the first's end", s.has(641, 640), false);
    }

    private static void promise02Coordinates() {
        says(2, "COORDINATES are whole numbers, -8192 .. 8191");
        for (int[] p : CORNERS) {
            StrokeRaster s = new StrokeRaster();
            due("a corner", s.move(p[0], p[1]), 1);
            s.pen(1, 1, 0, 640);
            s.close();
            due("it stands there", s.has(p[0], p[1]), true);
        }
        says(2, "IllegalArgument: a coordinate is out of bounds.");
        for (int[] p : OUTSIDE) {
            refused("move " + p[0] + ", " + p[1], ARGUMENT, BoundaryTests::rich, s -> s.move(p[0], p[1]));
        }
        refused("in a new object", ARGUMENT, StrokeRaster::new, s -> s.move(HIGH + 1, 0));
    }

    private static void promise02SixtyFour() {
        says(2, "IllegalState: there are 64 subpaths, or 1024 points.");
        StrokeRaster s = withSubpaths(63);
        due("the 64th", s.move(1, 1), 64);
        refused("a 65th", STATE, () -> withSubpaths(64), t -> t.move(1, 1));
        refused("a 65th behind a closed one", STATE, () -> {
            StrokeRaster t = withSubpaths(64);
            t.close();
            return t;
        }, t -> t.move(1, 1));
        due("64 are cleared", s.clear(), 64);
        due("there is room again", s.move(1, 1), 1);
        StrokeRaster full = withSubpaths(64);
        due("a line in the 64th", full.line(70, 70), 65);
        due("its piece", full.count(2), 1);
    }

    private static void promise02Points() {
        says(2, "IllegalState: there are 64 subpaths, or 1024 points.");
        StrokeRaster s = withPoints(1023);
        due("the last point", s.move(1, 1), 2);
        due("it is the 1024th", s.count(1), 1024);
        refused("one more", STATE, () -> withPoints(1024), t -> t.move(1, 1));
        refused("one more behind a move", STATE, () -> {
            StrokeRaster t = withPoints(1023);
            t.move(1, 1);
            return t;
        }, t -> t.move(1, 1));
    }

    private static void promise02FirstWins() {
        says(2, "where it lists more than one exception, the first one wins");
        refused("65th and out of bounds", ARGUMENT, () -> withSubpaths(64), s -> s.move(HIGH + 1, 0));
        refused("1025th and out of bounds", ARGUMENT, () -> withPoints(1024), s -> s.move(0, LOW - 1));
    }

    // ---- promise 3

    private static void promise02OnePoint() {
        says(2, "A subpath of one point that is left has no segment");
        StrokeRaster s = new StrokeRaster();
        s.pen(640, 1, 1, 640);
        s.move(1000, 1000);
        due("pieces", s.count(2), 0);
        due("pixels", s.count(3), 0);
        due("the point itself", s.has(1000, 1000), false);
        s.move(1000, 1000);
        due("twice there, pieces", s.count(2), 0);
        due("twice there", s.has(1000, 1000), false);
        s.dash(64);
        due("with dashes", s.has(1000, 1000), false);
    }

    private static void promise03HowMany() {
        says(3, "A line: how many points the path has.");
        StrokeRaster s = new StrokeRaster();
        s.move(0, 0);
        s.move(0, 0);
        due("those of all subpaths", s.line(5, 5), 3);
        due("to the same place", s.line(5, 5), 4);
    }

    private static void promise03Coordinates() {
        says(3, "IllegalArgument: a coordinate is out of bounds.");
        for (int[] p : CORNERS) {
            StrokeRaster s = lined(2, 0, 0, 0, p[0], p[1]);
            due("a corner", s.has(p[0], p[1]), true);
        }
        for (int[] p : OUTSIDE) {
            refused("line " + p[0] + ", " + p[1], ARGUMENT, BoundaryTests::rich, s -> s.line(p[0], p[1]));
        }
    }

    private static void promise03NoSubpath() {
        says(3, "IllegalState: there is no subpath, or the last one is closed, or there would be more than 1024 points.");
        refused("a new object", STATE, StrokeRaster::new, s -> s.line(1, 1));
        refused("cleared", STATE, () -> {
            StrokeRaster s = rich();
            s.clear();
            return s;
        }, s -> s.line(1, 1));
        refused("closed", STATE, () -> {
            StrokeRaster s = rich();
            s.close();
            return s;
        }, s -> s.line(1, 1));
        refused("closed at once", STATE, () -> dotted(9, 9), s -> s.line(1, 1));
        refused("an earlier one is open", STATE, () -> {
            StrokeRaster s = lined(64, 0, 0, 0, 90, 90);
            s.move(5, 5);
            s.close();
            return s;
        }, s -> s.line(1, 1));
        StrokeRaster open = dotted(9, 9);
        open.move(3, 3);
        due("the last one is open, an earlier one closed", open.line(1, 1), 3);
    }

    private static void promise03Points() {
        says(3, "A path has at most 1024 points (a move one, a line one, a curve sixteen).");
        due("the 1024th", withPoints(1023).line(7, 7), 1024);
        refused("a 1025th", STATE, () -> withPoints(1024), s -> s.line(7, 7));
        refused("a 1025th to the same place", STATE, () -> {
            StrokeRaster s = withPoints(1023);
            s.line(7, 7);
            return s;
        }, s -> s.line(7, 7));
        StrokeRaster again = withPoints(1024);
        again.clear();
        again.move(7, 7);
        due("room again", again.line(8, 8), 2);
        due("1023 pieces", withPoints(1024).count(2), 1023);
    }

    private static void promise03FirstWins() {
        says(3, "where it lists more than one exception, the first one wins");
        refused("no subpath", ARGUMENT, StrokeRaster::new, s -> s.line(0, HIGH + 1));
        refused("closed", ARGUMENT, () -> dotted(9, 9), s -> s.line(LOW - 1, 0));
        refused("1024 points", ARGUMENT, () -> withPoints(1024), s -> s.line(LOW - 1, 0));
    }

    private static void promise03MustMove() {
        says(3, "A subpath may be closed; then it ends, and one must move before it goes on.");
        StrokeRaster s = cornered(64, 0, 640, 640, 640, 1280, 640, 1280, 1280);
        s.close();
        due("line", outcome(s, t -> t.line(2000, 2000)), STATE);
        due("curve", outcome(s, t -> t.curve(2000, 2000)), STATE);
        due("close", outcome(s, t -> t.close()), STATE);
        s.move(2000, 640);
        due("behind a move", s.line(2000, 1280), 5);
        due("from where one moved", s.has(2000, 900), true);
        due("not from the closed one", s.has(1640, 1280), false);
    }

    private static void promise03LeftOut() {
        says(3, "A point that is where the one before it is is left out");
        StrokeRaster s = cornered(64, 0, 640, 640, 640, 640, 640, 1280, 640, 1280, 640, 1280, 640, 1280, 1280, 1280, 1280);
        due("points", s.count(1), 7);
        due("pieces", s.count(2), 2);
        due("the join is as without them", s.has(1312, 608), true);
        due("the end is as without them", s.has(1280, 1280), true);
        due("no cap", s.has(1280, 1281), false);
        StrokeRaster back = cornered(64, 0, 640, 640, 640, 1280, 640, 640, 640);
        due("a place of two points ago stays", back.count(2), 2);
        StrokeRaster dashes = cornered(64, 0, 640, 0, 640, 0, 640, 100, 640, 100, 640, 200, 640, 200, 640);
        dash(dashes, 0, 150);
        due("a dash goes on over them", dashes.count(2), 2);
        due("up to its end", dashes.has(150, 640), true);
        due("not further", dashes.has(151, 640), false);
    }

    // ---- promise 4

    private static void promise03Segments() {
        says(3, "SEGMENTS go from each point to the next one");
        StrokeRaster s = cornered(64, 2, 640, 1000, 1000, 2000, 1000, 2000, 2000, 3000, 2000);
        s.move(3500, 2000);
        s.line(3500, 3000);
        due("pieces", s.count(2), 4);
        int[][] in = {{1500, 1000}, {2000, 1500}, {2500, 2000}, {3500, 2500}};
        for (int[] p : in) {
            due("a segment's midst", s.has(p[0], p[1]), true);
        }
        due("from the first to the third", s.has(1500, 1500), false);
        due("from the last to the first", s.has(1400, 1200), false);
        due("from one subpath to the next", s.has(3250, 2000), false);
        due("from the last to the second", s.has(2500, 1500), false);
    }

    private static void promise04Bounds() {
        says(4, "IllegalArgument: a coordinate is out of bounds.");
        int[] beyond = {LOW - 1, HIGH + 1, Integer.MIN_VALUE, Integer.MAX_VALUE};
        for (int i = 0; i < 4; i++) {
            for (int c : beyond) {
                int[] at = {10, 20, 30, 40};
                at[i] = c;
                refused("control " + Arrays.toString(at), ARGUMENT, BoundaryTests::rich,
                        order(s -> s.control(at[0], at[1], at[2], at[3])));
            }
        }
        for (int i = 0; i < 16; i++) {
            int[] at = {(i & 1) == 0 ? LOW : HIGH, (i & 2) == 0 ? LOW : HIGH, (i & 4) == 0 ? LOW : HIGH, (i & 8) == 0 ? LOW : HIGH};
            due("control " + Arrays.toString(at), outcome(rich(), order(s -> s.control(at[0], at[1], at[2], at[3]))), "nothing");
        }
        due("without a path", outcome(new StrokeRaster(), order(s -> s.control(1, 1, 1, 1))), "nothing");
    }

    private static void promise04FromNowOn() {
        says(4, "The CONTROLS for curves from now on.");
        StrokeRaster s = new StrokeRaster();
        s.pen(2, 1, 1, 640);
        s.control(0, 1600, 1600, 1600);
        s.move(0, 0);
        s.curve(1600, 0);
        s.control(0, -1600, 1600, -1600);
        due("not the curves from before", s.has(800, 1200), true);
        due("no curve by itself", s.has(800, -1200), false);
        due("no point by itself", s.count(1), 17);
        s.move(0, 0);
        s.curve(1600, 0);
        due("a curve from then on", s.has(800, -1200), true);
        s.move(1600, 0);
        s.curve(0, 0);
        due("more than one curve", s.count(2), 48);
    }

    private static void promise04Order() {
        says(4, "A curve from P by C, D to Q");
        StrokeRaster s = new StrokeRaster();
        s.pen(1, 1, 1, 640);
        s.control(4096, 0, 0, 0);
        s.move(0, 0);
        s.curve(0, 4096);
        // x is 3 k (16 - k)^2, y is k^3
        due("C first", s.has(3 * 4 * 144, 64), true);
        due("not D", s.has(3 * 16 * 12, 64), false);
    }

    // ---- promise 5

    private static void promise05AtFirst() {
        says(5, "A curve by the CONTROLS told last (0, 0 and 0, 0 at first): how many points the path has.");
        StrokeRaster s = new StrokeRaster();
        s.pen(1, 0, 1, 640);
        s.move(4096, 0);
        due("points", s.curve(0, 4096), 17);
        for (int k = 1; k <= 16; k++) {
            int m = 16 - k;
            due("point " + k, s.has(m * m * m, k * k * k), true);
        }
        due("pieces", s.count(2), 16);
        due("on from the last point", s.curve(0, 4096), 33);
    }

    private static void promise05Sixteen() {
        says(5, "each coordinate is (P (16 - k)^3 + 3 C k (16 - k)^2 + 3 D k^2 (16 - k) + Q k^3 + 2048) / 4096");
        int[] up = {0, 0, 0, 0, 0, 0, 0, 1, 1, 1, 1, 2, 2, 3, 3, 4};
        int[] down = {0, 0, 0, 0, 0, 0, 0, 0, -1, -1, -1, -2, -2, -3, -3, -4};
        int[] more = {0, 0, 0, 0, 0, 0, 0, -1, -1, -1, -2, -2, -3, -3, -4, -5};
        flat("a half is rounded up", 4, up);
        flat("a half below 0, too", -4, down);
        says(5, "all quotients here are rounded down");
        flat("below 0, too", -5, more);
        StrokeRaster less = new StrokeRaster();
        less.pen(1, 0, 2, 64);
        less.move(-4096, 0);
        less.control(-1365, 0, 1365, 0);
        less.curve(4096, 2047);
        // the first point's height is (2047 + 2048) / 4096
        due("just less than a half", less.has(-3584, 0), true);
        due("just less than a half, not above", less.has(-3584, 1), false);
    }

    /** The controls lie a third of the way, so that the points are some 512 apart: any of them can be seen. */
    private static void flat(String what, int end, int[] heights) {
        StrokeRaster s = new StrokeRaster();
        s.pen(1, 0, 2, 64);
        s.move(-4096, 0);
        s.control(-1365, 0, 1365, 0);
        s.curve(4096, end);
        StrokeRaster turned = new StrokeRaster();
        turned.pen(1, 0, 2, 64);
        turned.move(0, -4096);
        turned.control(0, -1365, 0, 1365);
        turned.curve(end, 4096);
        for (int k = 1; k <= 16; k++) {
            int m = 16 - k;
            int at = Math.floorDiv(-4096 * m * m * m - 3 * 1365 * k * m * m + 3 * 1365 * k * k * m + 4096 * k * k * k + 2048, 4096);
            int y = heights[k - 1];
            for (int off = -1; off <= 1; off++) {
                due(what + ", point " + k, s.has(at, y + off), off == 0);
                due(what + ", turned, point " + k, turned.has(y + off, at), off == 0);
            }
        }
    }

    private static void promise05GoesOn() {
        says(5, "lines go on from the last point to another one, curves by two CONTROLS to another one");
        StrokeRaster s = new StrokeRaster();
        s.pen(2, 0, 1, 640);
        s.control(1000, 2000, 2000, 2000);
        s.move(0, 0);
        s.line(1000, 1000);
        s.curve(2000, 1000);
        s.line(3000, 0);
        // the eighth point of the curve is at 1500, (1000 + 6 * 2000 + 1000) / 8
        due("from a line's end", s.has(1500, 1750), true);
        due("from a curve's end", s.has(2500, 500), true);
        due("from the first point", s.has(500, 500), true);
        due("not straight on", s.has(1500, 1000), false);
        due("pieces", s.count(2), 18);
        due("no end but two", s.has(3001, -1), false);
    }

    private static void promise05Farthest() {
        says(5, "A curve from P by C, D to Q goes by sixteen points, for k from 1 to 16");
        StrokeRaster s = new StrokeRaster();
        s.pen(1, 0, 1, 640);
        s.control(HIGH, LOW, LOW, HIGH);
        s.move(LOW, LOW);
        s.curve(HIGH, HIGH);
        due("P", s.has(LOW, LOW), true);
        due("Q", s.has(HIGH, HIGH), true);
        // at k = 8 both are (-8192 + 3 * 8191 - 3 * 8192 + 8191 + 4) / 8, and that is 0
        due("the middle", s.has(0, 0), true);
        s.clear();
        s.control(LOW, LOW, LOW, LOW);
        s.move(LOW, LOW);
        s.curve(LOW, LOW);
        due("all at the lowest place", s.count(2), 1);
        s.clear();
        s.control(HIGH, HIGH, HIGH, HIGH);
        s.move(HIGH, HIGH);
        due("all at the highest place", s.curve(HIGH, HIGH), 17);
        due("it is a dot", s.count(2), 1);
    }

    private static void promise05Refused() {
        says(5, "IllegalArgument, IllegalState, as with line.");
        for (int[] p : OUTSIDE) {
            refused("curve " + p[0] + ", " + p[1], ARGUMENT, BoundaryTests::rich, s -> s.curve(p[0], p[1]));
        }
        for (int[] p : CORNERS) {
            due("a corner", outcome(rich(), s -> s.curve(p[0], p[1])), "37");
        }
        refused("no subpath", STATE, StrokeRaster::new, s -> s.curve(1, 1));
        refused("closed", STATE, () -> dotted(9, 9), s -> s.curve(1, 1));
        refused("cleared", STATE, () -> {
            StrokeRaster s = rich();
            s.clear();
            return s;
        }, s -> s.curve(1, 1));
        refused("no subpath, the first one wins", ARGUMENT, StrokeRaster::new, s -> s.curve(1, HIGH + 1));
        refused("closed, the first one wins", ARGUMENT, () -> dotted(9, 9), s -> s.curve(1, LOW - 1));
        refused("too many, the first one wins", ARGUMENT, () -> withPoints(1009), s -> s.curve(HIGH + 1, 1));
    }

    private static void promise05Points() {
        says(5, "A path has at most 1024 points (a move one, a line one, a curve sixteen).");
        due("just sixteen fit", withPoints(1008).curve(7, 7), 1024);
        refused("fifteen fit", STATE, () -> withPoints(1009), s -> s.curve(7, 7));
        refused("one fits", STATE, () -> withPoints(1023), s -> s.curve(7, 7));
        refused("none fits", STATE, () -> withPoints(1024), s -> s.curve(7, 7));
        StrokeRaster s = withPoints(1009);
        outcome(s, t -> t.curve(7, 7));
        due("a line fits nevertheless", s.line(7, 7), 1010);
    }

    // ---- promise 6

    private static void promise06HowMany() {
        says(6, "The last subpath is closed: how many are.");
        StrokeRaster s = new StrokeRaster();
        s.move(0, 0);
        due("first", s.close(), 1);
        s.move(0, 0);
        s.move(64, 64);
        due("the open ones are not counted", s.close(), 2);
        s.clear();
        s.move(5, 5);
        due("cleared", s.close(), 1);
        StrokeRaster all = new StrokeRaster();
        for (int i = 1; i <= 64; i++) {
            all.move(i, i);
            due("all 64", all.close(), i);
        }
        due("64 dots", all.count(2), 64);
        due("no point more", all.count(1), 64);
    }

    private static void promise06Refused() {
        says(6, "IllegalState: there is none, or it is closed.");
        refused("a new object", STATE, StrokeRaster::new, s -> s.close());
        refused("cleared", STATE, () -> {
            StrokeRaster s = rich();
            s.clear();
            return s;
        }, s -> s.close());
        refused("closed", STATE, () -> dotted(900, 900), s -> s.close());
        refused("closed, an earlier one open", STATE, () -> {
            StrokeRaster s = lined(64, 0, 0, 0, 900, 900);
            s.move(2000, 2000);
            s.line(2000, 900);
            s.close();
            return s;
        }, s -> s.close());
        due("with 1024 points", withPoints(1024).close(), 1);
    }

    private static void promise06LastOne() {
        says(6, "of a closed subpath the last one, too, that is where the first is");
        StrokeRaster s = cornered(64, 0, 640, 640, 640, 1280, 640, 1280, 1280, 640, 640);
        due("open", s.count(2), 3);
        due("open, no join there", s.has(570, 610), false);
        s.close();
        due("closed", s.count(2), 3);
        due("closed, a join there", s.has(570, 610), true);
        StrokeRaster twice = cornered(64, 0, 640, 640, 640, 1280, 640, 1280, 1280, 640, 640, 640, 640);
        twice.close();
        due("told twice", twice.count(2), 3);
        due("told twice, a join there", twice.has(570, 610), true);
        StrokeRaster twos = cornered(64, 1, 640, 640, 640, 1280, 640, 640, 640);
        twos.close();
        due("there and back", twos.count(2), 2);
        due("there and back, a join at the first", twos.has(608, 640), true);
    }

    private static void promise06Segments() {
        says(6, "in a closed subpath with two points or more also from the last to the first");
        StrokeRaster three = cornered(64, 0, 640, 640, 640, 1280, 640, 1280, 1280);
        due("open", three.has(960, 960), false);
        three.close();
        due("three", three.count(2), 3);
        due("back to the first", three.has(960, 960), true);
        StrokeRaster two = cornered(64, 1, 640, 640, 640, 1280, 640);
        due("two, open, no join", two.has(608, 640), false);
        two.close();
        due("two", two.count(2), 2);
        due("two, a join at the first", two.has(608, 640), true);
        due("two, a join at the last", two.has(1312, 640), true);
        two.pen(64, 2, 0, 640);
        due("no caps", two.has(639, 640), false);
        due("no caps at the last", two.has(1281, 640), false);
        StrokeRaster one = cornered(64, 1, 640, 640, 640);
        one.close();
        due("one is a dot", one.count(2), 1);
        due("of butt caps, with round joins", one.has(640, 640), false);
    }

    private static void promise06Dots() {
        says(6, "it is a DOT, if it is closed or if a line or curve was told (to the same place)");
        StrokeRaster s = new StrokeRaster();
        s.pen(64, 1, 0, 640);
        s.move(640, 640);
        due("a move alone", s.count(2), 0);
        due("a move alone holds nothing", s.has(640, 640), false);
        s.move(640, 640);
        due("two moves", s.count(2), 0);
        s.close();
        due("closed", s.count(2), 1);
        due("closed, its edge", s.has(672, 640), true);
        s.move(1280, 640);
        s.line(1280, 640);
        due("a line", s.count(2), 2);
        due("a line, its edge", s.has(1280, 672), true);
        s.line(1280, 640);
        s.close();
        due("two lines, and closed", s.count(2), 2);
        s.control(1920, 640, 1920, 640);
        s.move(1920, 640);
        s.curve(1920, 640);
        due("a curve", s.count(2), 3);
        due("a curve, its edge", s.has(1888, 640), true);
        due("a curve, beyond", s.has(1887, 640), false);
        s.line(1921, 640);
        due("no longer one", s.count(2), 3);
        due("no longer one, but a line", s.has(1889, 640), true);
    }

    // ---- promise 7

    private static void promise07HowMany() {
        says(7, "The path is gone; how many subpaths it had.");
        StrokeRaster s = new StrokeRaster();
        due("none", s.clear(), 0);
        s.move(0, 0);
        s.close();
        s.move(640, 640);
        s.line(640, 0);
        due("there", s.count(2), 2);
        due("two", s.clear(), 2);
        due("none again", s.clear(), 0);
        for (int what = 0; what <= 3; what++) {
            due("count " + what, s.count(what), 0);
        }
        due("has", s.has(640, 320), false);
        due("row", s.row(60), 0L);
        due("share", s.share(10, 60), 0);
        due("no subpath that goes on", outcome(s, t -> t.line(1, 1)), STATE);
        due("64", withSubpaths(64).clear(), 64);
    }

    private static void promise07Stays() {
        says(7, "(Pen and controls stay.)");
        StrokeRaster s = rich();
        s.clear();
        StrokeRaster t = new StrokeRaster();
        t.pen(100, 2, 1, 300);
        t.control(300, 3900, 3700, 250);
        dash(t, 77, 500, 130);
        due("width, caps, joins, limit, dashes, phase and controls", redrawn(s), redrawn(t));
        StrokeRaster limit = cornered(128, 0, 90, 1000, 1000, 2000, 1000, 2000, 2000);
        limit.clear();
        limit.move(1000, 1000);
        limit.line(2000, 1000);
        limit.line(2000, 2000);
        due("the limit", limit.has(2064, 936), false);
        due("how many dashes", s.plain(0), 2);
    }

    private static String redrawn(StrokeRaster s) {
        s.move(500, 500);
        s.curve(3500, 500);
        s.line(2000, 3900);
        StringBuilder seen = new StringBuilder();
        seeStroke(s, seen);
        return seen.toString();
    }

    private static void promise07Room() {
        says(7, "The path is gone");
        StrokeRaster points = withPoints(1024);
        points.count(3);
        points.clear();
        due("a move", points.move(1, 1), 1);
        for (int i = 1; i <= 63; i++) {
            due("points", points.curve(i, i), 1 + 16 * i);
        }
        StrokeRaster full = lined(64, 0, 0, 640, 4001, 640);
        full.dash(1);
        due("too many pieces", full.count(2), StrokeRaster.FULL);
        full.clear();
        due("none", full.count(2), 0);
    }

    // ---- promise 8

    private static void promise08Bounds() {
        says(8, "IllegalArgument: one of them is out of bounds.");
        int[][] out = {{0, 0, 0, 640}, {-1, 0, 0, 640}, {4097, 0, 0, 640}, {64, -1, 0, 640}, {64, 3, 0, 640}, {64, 0, -1, 640},
            {64, 0, 3, 640}, {64, 0, 0, 63}, {64, 0, 0, 8193}, {64, 0, 0, 0}, {64, 0, 0, -640},
            {Integer.MIN_VALUE, 0, 0, 640}, {Integer.MAX_VALUE, 0, 0, 640}, {64, Integer.MIN_VALUE, 0, 640},
            {64, Integer.MAX_VALUE, 0, 640}, {64, 0, Integer.MIN_VALUE, 640}, {64, 0, Integer.MAX_VALUE, 640},
            {64, 0, 0, Integer.MIN_VALUE}, {64, 0, 0, Integer.MAX_VALUE}};
        for (int[] p : out) {
            refused("pen " + Arrays.toString(p), ARGUMENT, BoundaryTests::rich, order(s -> s.pen(p[0], p[1], p[2], p[3])));
        }
        int[][] in = {{1, 0, 0, 64}, {4096, 2, 2, 8192}, {1, 2, 0, 8192}, {4096, 0, 2, 64}};
        for (int[] p : in) {
            due("pen " + Arrays.toString(p), outcome(rich(), order(s -> s.pen(p[0], p[1], p[2], p[3]))), "nothing");
        }
    }

    private static void promise08Widths() {
        says(8, "H is 8 WIDTH.");
        int[] widths = {1, 2, 3, 4, 5, 63, 64, 65, 4095, 4096};
        for (int width : widths) {
            StrokeRaster s = lined(width, 0, -4000, 100, 4000, 100);
            due("width " + width + ", above", s.has(0, 100 + width / 2), true);
            due("width " + width + ", beyond above", s.has(0, 101 + width / 2), false);
            due("width " + width + ", below", s.has(0, 100 - width / 2), true);
            due("width " + width + ", beyond below", s.has(0, 99 - width / 2), false);
            StrokeRaster t = lined(width, 0, 100, 4000, 100, -4000);
            due("width " + width + ", right", t.has(100 + width / 2, 0), true);
            due("width " + width + ", beyond right", t.has(101 + width / 2, 0), false);
        }
    }

    private static void promise08Offsets() {
        says(8, "the greatest whole number k from 0 on that is 0 or for which (2 k - 1)^2 (dx^2 + dy^2) is at most (2 H dy)^2");
        // 143.503 and 127.558 are rounded up to nine and eight units
        StrokeRaster up = lined(24, 0, 1000, 1000, 1800, 1900);
        due("rounded up", up.has(1009, 992), true);
        due("rounded up, on the other side", up.has(991, 1008), true);
        due("rounded up, at the end", up.has(1809, 1892), true);
        // 127.490 and 47.353 are rounded down, to less than eight and three units
        StrokeRaster down = lined(17, 0, 1000, 1000, 1260, 1700);
        due("rounded down", down.has(1008, 997), false);
        // 32^2 + 1 is more than (2 * 16)^2, 31^2 + 1 is not
        due("0", lined(2, 0, 100, 100, 132, 101).has(100, 99), true);
        due("1", lined(2, 0, 100, 100, 131, 101).has(100, 99), false);
        due("v is 0, too", lined(2, 0, 100, 100, 101, 132).has(101, 100), true);
        due("v is 1", lined(2, 0, 100, 100, 101, 131).has(101, 100), true);
        due("v is 1, on the other side", lined(2, 0, 100, 100, 101, 131).has(99, 100), false);
    }

    private static void promise08Signs() {
        says(8, "The OFFSET of a segment with differences dx, dy is (u, -v): u has the sign of dy");
        int[][] ways = {{1, 1}, {1, -1}, {-1, 1}, {-1, -1}};
        for (int[] way : ways) {
            StrokeRaster s = lined(24, 0, 1000, 1000, 1000 + way[0] * 800, 1000 + way[1] * 900);
            due("+ o", s.has(1000 + way[1] * 9, 1000 - way[0] * 8), true);
            due("- o", s.has(1000 - way[1] * 9, 1000 + way[0] * 8), true);
            due("beyond", s.has(1000 + way[1] * 10, 1000 - way[0] * 9), false);
            due("before its beginning", s.has(1000 - way[0], 1000 - way[1]), false);
        }
    }

    private static void promise08Polygons() {
        says(8, "of each piece from A to B (not the same) with OFFSET o the POLYGON A + o, B + o, B - o, A - o");
        // 3, 4 and 5 make whole offsets: (4, -3) for (300, 400) and a width 10
        StrokeRaster s = lined(10, 0, 0, 0, 300, 400);
        int[][] in = {{4, -3}, {-4, 3}, {304, 397}, {296, 403}, {0, 0}, {300, 400}, {154, 197}};
        for (int[] p : in) {
            due("a corner or a side", s.has(p[0], p[1]), true);
        }
        int[][] out = {{5, -3}, {4, -4}, {-5, 3}, {-4, 2}, {305, 397}, {304, 398}, {301, 400}, {300, 401}, {155, 197}, {-1, 0}};
        for (int[] p : out) {
            due("beyond a corner or a side", s.has(p[0], p[1]), false);
        }
    }

    private static void promise08RoundCaps() {
        says(8, "caps round: all that lies not further than H from E (by squares)");
        StrokeRaster s = lined(10, 1, 1000, 1000, 2000, 1000);
        int[][] in = {{2005, 1000}, {2003, 1004}, {2004, 1003}, {2003, 996}, {995, 1000}, {997, 1004}, {996, 997}};
        for (int[] p : in) {
            due("just H", s.has(p[0], p[1]), true);
        }
        int[][] out = {{2006, 1000}, {2004, 1004}, {2005, 1001}, {994, 1000}, {996, 996}, {995, 1001}};
        for (int[] p : out) {
            due("more than H", s.has(p[0], p[1]), false);
        }
    }

    private static void promise08SquareCaps() {
        says(8, "square: the POLYGON E + o, E + o + f, E - o + f, E - o");
        StrokeRaster s = lined(10, 2, 0, 0, 300, 400);
        int[][] in = {{303, 404}, {307, 401}, {299, 407}, {-3, -4}, {1, -7}, {-7, -1}};
        for (int[] p : in) {
            due("an edge", s.has(p[0], p[1]), true);
        }
        int[][] out = {{304, 405}, {308, 401}, {299, 408}, {-4, -5}, {1, -8}, {-8, -1}};
        for (int[] p : out) {
            due("beyond it", s.has(p[0], p[1]), false);
        }
        StrokeRaster flat = lined(64, 2, 1000, 640, 2000, 640);
        int[][] near = {{2001, 608}, {2001, 672}, {2032, 608}, {2032, 672}, {999, 608}, {999, 672}, {968, 608}, {968, 672}};
        for (int[] p : near) {
            due("all four corners", flat.has(p[0], p[1]), true);
        }
    }

    // with a width 10 the offset of (300, 400) is (4, -3), and forward of it (3, 4)
    private static final int[][] WAYS = {{3, 4}, {4, 3}, {-3, 4}, {-4, 3}, {-3, -4}, {-4, -3}, {3, -4}, {4, -3}};

    private static void promise08Forward() {
        says(8, "FORWARD of an OFFSET (a, b) is (-b, a)");
        for (int[] way : WAYS) {
            int x = 1000 + 100 * way[0];
            int y = 1000 + 100 * way[1];
            StrokeRaster s = lined(10, 2, 1000, 1000, x, y);
            due("forward", s.has(x + way[0], y + way[1]), true);
            due("forward, to the right", s.has(x + way[0] + way[1], y + way[1] - way[0]), true);
            due("forward, to the left", s.has(x + way[0] - way[1], y + way[1] + way[0]), true);
            due("further", s.has(x + 2 * way[0], y + 2 * way[1]), false);
        }
    }

    private static void promise08Backward() {
        says(8, "with f FORWARD of the OFFSET of its piece there (at its beginning, - f), at the point E");
        for (int[] way : WAYS) {
            StrokeRaster s = lined(10, 2, 1000, 1000, 1000 + 100 * way[0], 1000 + 100 * way[1]);
            due("backward", s.has(1000 - way[0], 1000 - way[1]), true);
            due("backward, to the right", s.has(1000 - way[0] + way[1], 1000 - way[1] - way[0]), true);
            due("backward, to the left", s.has(1000 - way[0] - way[1], 1000 - way[1] + way[0]), true);
            due("further back", s.has(1000 - 2 * way[0], 1000 - 2 * way[1]), false);
        }
    }

    private static void promise08EitherSign() {
        says(8, "a point lies in one if (q - p) x (it - p) for all sides from p to q is at least 0, or at most 0, for all of them");
        // the same corner turned to the left and to the right, and gone both ways: its miter ends at 32 by 32
        int[][] turns = {{1, 1}, {1, -1}, {-1, 1}, {-1, -1}};
        for (int[] t : turns) {
            int[] there = {1000, 2000, 2000, 2000, 2000, 2000 + 1000 * t[1]};
            int[] back = {2000, 2000 + 1000 * t[1], 2000, 2000, 1000, 2000};
            StrokeRaster s = t[0] > 0 ? cornered(64, 0, 640, there) : cornered(64, 0, 640, back);
            due("the tip", s.has(2032, 2000 - 32 * t[1]), true);
            due("a side of the miter", s.has(2032, 2000 - 16 * t[1]), true);
            due("its other side", s.has(2016, 2000 - 32 * t[1]), true);
            due("beyond the side", s.has(2033, 2000 - 16 * t[1]), false);
            due("beyond the other", s.has(2016, 2000 - 33 * t[1]), false);
        }
    }

    private static void promise08OneBehindTheOther() {
        says(8, "Between pieces one behind the other in a chain");
        StrokeRaster s = cornered(64, 1, 640, 1000, 1000, 1100, 1000, 1100, 1100);
        due("a chain", s.has(1120, 980), true);
        dash(s, 0, 200, 0);
        due("one dash", s.has(1120, 980), true);
        dash(s, 0, 100, 0);
        due("two dashes that meet there, pieces", s.count(2), 2);
        due("two dashes that meet there", s.has(1120, 980), false);
        s.plain(0);
        s.clear();
        s.move(1000, 1000);
        s.line(1100, 1000);
        s.move(1100, 1000);
        s.line(1100, 1100);
        due("two subpaths that meet there", s.has(1120, 980), false);
    }

    private static void promise08ButtCaps() {
        says(8, "CAPS 0 butt, 1 round, 2 square (0)");
        StrokeRaster s = lined(10, 0, 1000, 1000, 2000, 1000);
        due("the end", s.has(2000, 1005), true);
        due("beyond it", s.has(2001, 1000), false);
        s.pen(10, 1, 0, 640);
        due("round", s.has(2005, 1000), true);
        due("round, no corner", s.has(2005, 1005), false);
        s.pen(10, 2, 0, 640);
        due("square, a corner", s.has(2005, 1005), true);
    }

    private static void promise08InTheChain() {
        says(8, "At both ends of a chain that is not closed");
        StrokeRaster s = cornered(64, 2, 640, 1000, 1000, 2000, 1000, 2000, 2000);
        s.pen(64, 2, 2, 640);
        due("the beginning", s.has(968, 1000), true);
        due("the end", s.has(2000, 2032), true);
        due("not in the midst", s.has(2032, 968), false);
        s.pen(64, 1, 2, 640);
        due("not round in the midst", s.has(2022, 978), false);
        s.close();
        s.pen(64, 2, 2, 640);
        due("closed, no cap at the first", s.has(968, 1000), false);
    }

    private static void promise08RoundJoins() {
        says(8, "joins round: all that lies not further than H from V");
        StrokeRaster s = cornered(10, 1, 640, 1000, 1000, 2000, 1000, 2000, 2000);
        due("just H", s.has(2003, 996), true);
        due("just H, too", s.has(2004, 997), true);
        due("more than H", s.has(2004, 996), false);
        StrokeRaster back = cornered(10, 1, 640, 1000, 1000, 2000, 1000, 1000, 1000);
        due("straight back", back.has(2005, 1000), true);
        due("straight back, more than H", back.has(2005, 1001), false);
    }

    private static void promise08Straight() {
        says(8, "Otherwise, if s = o x p is not 0");
        StrokeRaster back = cornered(128, 0, 8192, 1000, 1000, 2000, 1000, 1000, 1000);
        due("straight back, miter", back.has(2001, 1000), false);
        back.pen(128, 0, 2, 640);
        due("straight back, bevel", back.has(2001, 1000), false);
        due("straight back, the bodies", back.has(2000, 1064), true);
        StrokeRaster on = cornered(128, 0, 8192, 1000, 1000, 2000, 1000, 3000, 1000);
        due("straight on", on.has(2000, 1064), true);
        due("straight on, no more", on.has(2000, 1065), false);
        due("straight on is two pieces", on.count(2), 2);
    }

    private static void promise08Bevels() {
        says(8, "with both OFFSETS taken with the sign of s: the POLYGON V, V + o, V + p");
        StrokeRaster left = cornered(128, 2, 8192, 1000, 1000, 2000, 1000, 2000, 2000);
        due("to the left", left.has(2032, 968), true);
        due("to the left, beyond", left.has(2033, 968), false);
        due("to the left, no miter", left.has(2064, 936), false);
        due("to the left, inside", left.has(2010, 970), true);
        StrokeRaster right = cornered(128, 2, 8192, 1000, 1000, 2000, 1000, 2000, 0);
        due("to the right", right.has(2032, 1032), true);
        due("to the right, beyond", right.has(2033, 1032), false);
        due("to the right, inside", right.has(2010, 1030), true);
        // a sixth of a FINE unit before the second piece, whose OFFSET is (-25897, 20077)
        StrokeRaster between = cornered(4096, 2, 640, 1408, -262, 1000, 1000, -404, -811);
        due("from the corner itself", between.has(951, 1038), true);
        StrokeRaster sharp = cornered(128, 2, 8192, 1000, 1000, 2000, 1000, 1000, 1010);
        due("sharp, the bodies' corner", sharp.has(2000, 936), true);
        due("sharp", sharp.has(2001, 1000), false);
    }

    private static void promise08Limit() {
        says(8, "if 8192 H^2 is at most LIMIT^2 (H^2 + o . p)");
        // offsets (512, 0) and (-256, 443): H^2 + o . p is half of H^2, so that 128 is just the limit
        int[] path = {1000, 0, 1000, 1000, 134, 500};
        due("just the limit", cornered(64, 0, 128, path).has(1030, 1045), true);
        due("one less", cornered(64, 0, 127, path).has(1030, 1045), false);
        due("one more", cornered(64, 0, 129, path).has(1030, 1045), true);
        int[] square = {1000, 1000, 2000, 1000, 2000, 2000};
        due("90.5 is more than 90", cornered(128, 0, 90, square).has(2064, 936), false);
        due("and a bevel is left", cornered(128, 0, 90, square).has(2032, 968), true);
        due("90.5 is less than 91", cornered(128, 0, 91, square).has(2064, 936), true);
        due("the least limit", cornered(128, 0, 64, square).has(2064, 936), false);
        // offsets (6, -512) and (6, 512): H^2 + o . p is 36, and the greatest limit asks for 32
        int[] sharp = {0, 0, 4000, 50, 0, 100};
        due("the greatest limit", cornered(64, 0, 8192, sharp).has(9461, 50), true);
        due("7723 asks for 37", cornered(64, 0, 7722, sharp).has(9461, 50), false);
        // offsets (5, -512) and (5, 512) leave 25 alone
        int[] sharper = {0, 0, 4000, 38, 0, 76};
        due("more than the greatest limit", cornered(64, 0, 8192, sharper).has(4002, 38), false);
    }

    private static void promise08Miters() {
        says(8, "m being o + p, in each coordinate times H^2 and divided by H^2 + o . p");
        StrokeRaster corner = cornered(128, 0, 640, 1000, 1000, 2000, 1000, 2000, 2000);
        due("a right angle", corner.has(2064, 936), true);
        due("beyond", corner.has(2065, 936), false);
        due("beyond below", corner.has(2064, 935), false);
        // m is (-63.2, -31.05), rounded down to four and two units
        due("rounded down below 0", cornered(6, 0, 640, 1200, 940, 1000, 1000, 1060, 1160).has(996, 998), true);
        // m is (47.7, 15.9), rounded down to less than three units and one
        due("rounded down above 0", cornered(4, 0, 640, 900, 840, 1000, 1000, 900, 1040).has(1003, 1001), false);
        StrokeRaster far = cornered(64, 0, 8192, 0, 0, 4000, 50, 0, 100);
        due("12 times 512^2 by 36", far.has(9461, 50), true);
        due("beyond the far tip", far.has(9462, 50), false);
    }

    private static void promise08ClosedJoin() {
        says(8, "(in a closed one also from the last to the first)");
        StrokeRaster s = cornered(64, 0, 640, 1000, 1000, 2000, 1000, 2000, 2000, 1000, 2000);
        due("open", s.has(968, 968), false);
        s.close();
        due("a miter at the first", s.has(968, 968), true);
        s.pen(64, 0, 1, 640);
        due("a round one", s.has(978, 978), true);
        due("round, beyond", s.has(977, 977), false);
        s.pen(64, 0, 2, 640);
        due("a bevel", s.has(984, 984), true);
        due("bevel, beyond", s.has(983, 984), false);
    }

    private static void promise08Dots() {
        says(8, "A DOT with round caps: all that lies not further than H from it (with dashes, too); with others nothing.");
        StrokeRaster s = new StrokeRaster();
        s.move(1000, 1000);
        s.line(1000, 1000);
        for (int dashes = 0; dashes < 2; dashes++) {
            for (int joins = 0; joins < 3; joins++) {
                s.pen(10, 1, joins, 640);
                due("just H", s.has(1003, 1004), true);
                due("more than H", s.has(1004, 1004), false);
                s.pen(10, 0, joins, 640);
                due("butt", s.has(1000, 1000), false);
                s.pen(10, 2, joins, 640);
                due("square", s.has(1000, 1000), false);
                due("it counts", s.count(2), 1);
            }
            dash(s, 3, 0, 5);
        }
        dash(s, 0, 5, 0);
        s.pen(10, 1, 0, 640);
        due("whatever dash is in turn", s.has(1003, 1004), true);
    }

    private static void promise08OverItself() {
        says(8, "THE STROKE, in FINE coordinates (of a point asked for: 16 times its own), is all that lies in one of these");
        StrokeRaster s = cornered(400, 0, 640, 1000, 1000, 3000, 1000, 3000, 1100, 1000, 1100);
        due("there and back", s.has(2000, 1050), true);
        s.close();
        due("closed", s.has(2000, 1050), true);
        s.move(2000, 0);
        s.line(2000, 2000);
        due("crossed", s.has(2000, 1050), true);
        s.move(2000, 2000);
        s.line(2000, 0);
        due("crossed twice", s.has(2000, 1050), true);
    }

    // ---- promise 9

    private static void promise09Refused() {
        says(9, "IllegalArgument: it is out of bounds.");
        int[] out = {-1, 8193, Integer.MIN_VALUE, Integer.MAX_VALUE};
        for (int length : out) {
            refused("dash " + length, ARGUMENT, BoundaryTests::rich, s -> s.dash(length));
        }
        due("the least", new StrokeRaster().dash(0), 1);
        due("the greatest", new StrokeRaster().dash(8192), 1);
        says(9, "IllegalState: there are 8.");
        Make eight = () -> dashed(0, 7, 10, 20, 30, 40, 50, 60, 70, 80);
        refused("a ninth", STATE, eight, s -> s.dash(5));
        refused("a ninth of 0", STATE, eight, s -> s.dash(0));
        refused("a ninth, the first one wins", ARGUMENT, eight, s -> s.dash(-1));
        refused("a ninth, the first one wins, too", ARGUMENT, eight, s -> s.dash(8193));
    }

    private static void promise09HowMany() {
        says(9, "A DASH more: how many there are.");
        StrokeRaster s = new StrokeRaster();
        for (int round = 0; round < 2; round++) {
            for (int i = 1; i <= 8; i++) {
                due("dash " + i, s.dash(i % 3), i);
            }
            s.clear();
            s.pen(5, 0, 0, 64);
            due("a path and a pen take none", outcome(s, t -> t.dash(1)), STATE);
            due("all of them", s.plain(0), 8);
        }
    }

    private static void promise09AllZero() {
        says(9, "Without dashes (or if all are 0) each segment is one; those of a subpath are a CHAIN, closed if it is.");
        StrokeRaster s = cornered(64, 0, 640, 1000, 1000, 2000, 1000, 2000, 2000, 1000, 2000);
        s.close();
        s.plain(65535);
        for (int dashes = 0; dashes <= 8; dashes++) {
            due(dashes + " of 0, pieces", s.count(2), 4);
            due(dashes + " of 0, a join at the first", s.has(968, 968), true);
            outcome(s, t -> t.dash(0));
        }
        dash(s, 0, 0, 0, 0, 0, 0, 0, 0, 1);
        due("all but the last are 0", s.count(2) == 4, false);
    }

    private static void promise09InTurn() {
        says(9, "the DASHES are lengths in turn, beginning anew behind the last, the first one ON, then OFF and ON in turn");
        StrokeRaster s = dashed(0, 0, 100, 50);
        int[] on = {0, 100, 150, 250, 300, 900, 1000};
        int[] off = {101, 149, 251, 299, 401, 899};
        for (int x : on) {
            due("on at " + x, s.has(x, 640), true);
        }
        for (int x : off) {
            due("off at " + x, s.has(x, 640), false);
        }
        due("seven pieces", s.count(2), 7);
    }

    private static void promise09Odd() {
        says(9, "(going on so when they begin anew)");
        StrokeRaster one = dashed(0, 0, 100);
        due("one dash, on", one.has(100, 640), true);
        due("one dash, off", one.has(101, 640), false);
        due("one dash, still off", one.has(199, 640), false);
        due("one dash, on again", one.has(200, 640), true);
        StrokeRaster three = dashed(0, 0, 100, 50, 30);
        // on 100, off 50, on 30, off 100, on 50, off 30
        int[] edges = {0, 100, 150, 180, 280, 330, 360, 460};
        for (int i = 0; i + 1 < edges.length; i++) {
            due("three dashes, in the midst of the " + i + "th", three.has((edges[i] + edges[i + 1]) / 2, 640), i % 2 == 0);
            due("three dashes, an edge", three.has(edges[i], 640), true);
        }
    }

    private static void promise09Anew() {
        says(9, "With dashes each subpath, from its first point on (closed ones back to it, but their chains are not closed), is gone along anew");
        StrokeRaster s = dashed(0, 30, 100, 50);
        s.move(0, 1280);
        s.line(60, 1280);
        s.move(0, 1920);
        s.line(1000, 1920);
        int[] heights = {640, 1920};
        for (int y : heights) {
            due("on", s.has(70, y), true);
            due("off", s.has(71, y), false);
            due("on again", s.has(120, y), true);
        }
        due("a short one", s.has(60, 1280), true);
        StrokeRaster shut = cornered(64, 0, 640, 1000, 1000, 2000, 1000, 2000, 2000, 1000, 2000);
        shut.close();
        dash(shut, 0, 8192);
        due("closed, pieces", shut.count(2), 4);
        due("back to the first point", shut.has(1000, 1001), true);
        due("a join in the midst", shut.has(2032, 968), true);
        due("no join at the first", shut.has(968, 968), false);
        shut.pen(64, 2, 0, 640);
        due("but caps, at the beginning", shut.has(968, 1000), true);
        due("but caps, at the end", shut.has(1000, 968), true);
    }

    private static void promise09Length() {
        says(9, "A segment's LENGTH is the greatest whole number whose square is at most 65,536 (dx^2 + dy^2)");
        // 256 times 200.0025 is 51,200.64: 200 units are just the LENGTH, and the next piece has no place
        StrokeRaster under = lined(64, 0, 0, 0, 200, 1);
        dash(under, 0, 200, 0);
        due("rounded down", under.count(2), 1);
        // 256 times 128.003906 is 32,768.99998, 256 times 511.003914 is 130,817.002
        StrokeRaster just = lined(64, 0, 0, 0, 128, 1);
        dash(just, 0, 128, 0);
        due("just no 256th more", just.count(2), 1);
        StrokeRaster more = lined(64, 0, 0, 0, 511, 2);
        dash(more, 0, 511, 0);
        due("just a 256th more", more.count(2), 2);
        StrokeRaster exact = lined(64, 0, 0, 0, 3, 4);
        dash(exact, 0, 5, 0, 0, 1);
        due("just a square", exact.count(2), 2);
        dash(exact, 0, 5, 0);
        due("no more than that", exact.count(2), 1);
        StrokeRaster longest = lined(64, 0, LOW, LOW, HIGH, HIGH);
        // 16,383 times the root of 2 is 23,169.06
        dash(longest, 0, 8192, 8192, 6785, 0, 0, 1);
        due("the longest, used up", longest.count(2), 3);
        dash(longest, 0, 8192, 8192, 6786, 0, 0, 1);
        due("the longest, not used up", longest.count(2), 2);
    }

    private static void promise09FinePoints() {
        says(9, "in each coordinate, (32 d t + l) / (2 l), d being its difference");
        // (160, 1) has the LENGTH 40,960, so that behind 5 units y is just half a FINE one
        StrokeRaster up = lined(4, 1, 0, 0, 160, 1);
        dash(up, 1, 1, 4, 0, 8192);
        due("the piece", up.has(4, 0), true);
        due("below the middle of the segment", up.has(4, -2), true);
        dash(up, 1, 1, 5, 0, 8192);
        due("half is rounded up, above", up.has(5, 2), true);
        due("half is rounded up, below", up.has(5, -2), false);
        StrokeRaster down = lined(4, 1, 0, 0, 160, -1);
        dash(down, 1, 1, 5, 0, 8192);
        due("half below 0 is rounded up, above", down.has(5, 2), true);
        due("half below 0 is rounded up, below", down.has(5, -2), true);
        dash(down, 1, 1, 6, 0, 8192);
        due("more than half below 0, above", down.has(6, 2), false);
        due("more than half below 0, below", down.has(6, -2), true);
    }

    private static void promise09AtTheEnd() {
        says(9, "When a DASH is used up, in the midst of a segment or at its end, the chain ends there, and the next DASH begins");
        StrokeRaster s = cornered(64, 0, 640, 0, 640, 1000, 640, 1000, 1640);
        dash(s, 0, 1000);
        due("at the corner", s.count(2), 1);
        due("at the corner, no join", s.has(1032, 608), false);
        due("at the corner, off", s.has(1000, 700), false);
        dash(s, 0, 1001);
        due("one unit behind it", s.count(2), 2);
        due("one unit behind it, a join", s.has(1032, 608), true);
        dash(s, 0, 999);
        due("one unit before it", s.count(2), 2);
        due("one unit before it, no join", s.has(1032, 608), false);
        dash(s, 0, 1000, 0);
        due("on again at the corner", s.count(2), 2);
        due("on again at the corner, no join", s.has(1032, 608), false);
        due("on again at the corner, on", s.has(1000, 1640), true);
        dash(s, 0, 500, 0);
        due("on again in the midst", s.count(2), 4);
        due("on again in the midst, no join either", s.has(1032, 608), false);
    }

    private static void promise09NotUsedUp() {
        says(9, "a DASH counts 256 times");
        // the first segment's LENGTH is 33,023: of 129 units one 256th is left
        StrokeRaster s = lined(64, 0, 0, 640, 112, 704);
        dash(s, 0, 129, 8192);
        due("a 256th is left", s.count(2), 1);
        s.pen(64, 0, 1, 640);
        due("a 256th is left, no join yet", s.has(128, 680), false);
        s.line(112, 1704);
        due("a 256th in the next segment", s.count(2), 2);
        due("a 256th in the next segment, a join", s.has(128, 680), true);
        due("and no more", s.has(112, 740), false);
    }

    private static void promise09OneChain() {
        says(9, "What is ON is a piece, those in one DASH a chain.");
        StrokeRaster s = cornered(64, 0, 640, 0, 640, 400, 640, 400, 1040, 800, 1040, 800, 1440);
        s.pen(64, 2, 0, 640);
        dash(s, 0, 1300, 8192);
        due("pieces", s.count(2), 4);
        due("a join", s.has(432, 608), true);
        due("a join to the right", s.has(368, 1072), true);
        due("another one", s.has(832, 1008), true);
        due("a cap at the end", s.has(832, 1172), true);
        due("a cap at the end, beyond", s.has(800, 1173), false);
        due("a cap at the beginning", s.has(-32, 640), true);
    }

    private static void promise09Zero() {
        says(9, "also if it is 0: then one that is ON is a chain of one piece without length, of this segment, and is used up at once");
        StrokeRaster s = dashed(2, 0, 100, 200, 0, 200);
        due("100, 0, 100, 0, ..", s.count(2), 4);
        due("its square", s.has(268, 672), true);
        due("its square, on the other side", s.has(332, 608), true);
        due("its square, beyond", s.has(267, 640), false);
        due("its square, beyond on the other side", s.has(333, 640), false);
        s.pen(64, 1, 0, 640);
        due("round", s.has(268, 640), true);
        due("round, no corner", s.has(268, 641), false);
        s.pen(64, 0, 0, 640);
        due("butt", s.has(300, 640), false);
        due("it counts", s.count(2), 4);
        StrokeRaster off = dashed(2, 0, 100, 0);
        due("off of 0", off.count(2), 10);
        StrokeRaster twice = dashed(2, 0, 100, 0, 0, 200);
        due("off and on of 0", twice.count(2), 8);
        due("where the dash ends", twice.has(132, 640), true);
        StrokeRaster many = dashed(1, 0, 100, 0, 0, 0, 0, 0, 0, 400);
        due("three on of 0 at one place", many.count(2), 8);
    }

    private static void promise09ZeroAtTheEnd() {
        says(9, "of this segment, and is used up at once");
        StrokeRaster s = cornered(64, 0, 640, 0, 640, 300, 1040, 1300, 1040);
        s.pen(80, 2, 0, 640);
        dash(s, 0, 1, 499, 0, 8192);
        // the first segment is 500 long: its OFFSET is (32, -24), and f is (24, 32)
        due("at a corner", s.count(2), 2);
        due("it lies as the segment before", s.has(356, 1048), true);
        due("it lies as the segment before, on the other side", s.has(244, 1032), true);
        due("not as the next one", s.has(339, 1001), false);
        StrokeRaster end = lined(64, 2, 0, 640, 1000, 640);
        dash(end, 0, 500, 500, 0, 8192);
        due("at the end of all", end.count(2), 2);
        due("at the end of all, its square", end.has(1032, 672), true);
        StrokeRaster shut = cornered(64, 0, 640, 0, 640, 1000, 640, 1000, 1640, 0, 1640);
        shut.close();
        shut.pen(64, 2, 0, 640);
        dash(shut, 0, 1, 3999, 0, 8192);
        due("at the end of a closed one", shut.count(2), 2);
        due("at the end of a closed one, its square", shut.has(-32, 608), true);
    }

    private static void promise09LongerAtTheEnd() {
        says(9, "(one that is ON and longer, and begins where a segment ends, has its first piece in the next one, none where the subpath ends)");
        StrokeRaster s = cornered(64, 0, 640, 0, 640, 1000, 640, 1000, 1640);
        s.pen(64, 2, 0, 640);
        dash(s, 0, 500, 500, 8192);
        due("pieces", s.count(2), 2);
        due("a cap of the next segment", s.has(968, 608), true);
        due("a cap of the next segment, beyond", s.has(1000, 607), false);
        StrokeRaster none = lined(64, 2, 0, 640, 1000, 640);
        dash(none, 0, 500, 500);
        due("none", none.count(2), 1);
        due("no cap", none.has(1000, 640), false);
        dash(none, 0, 500, 499);
        due("one unit of it", none.count(2), 2);
        due("one unit of it, its cap", none.has(1032, 640), true);
        StrokeRaster shut = cornered(64, 0, 640, 0, 640, 1000, 640);
        shut.close();
        dash(shut, 0, 500, 1500);
        due("none where a closed one ends", shut.count(2), 1);
    }

    private static void promise09TooMany() {
        says(9, "There are at most 2000 pieces (a DOT counts as one); if there would be more, the stroke is empty.");
        StrokeRaster s = lined(64, 1, 0, 640, 4000, 640);
        s.dash(1);
        due("2000", s.count(2), 2000);
        due("2000, in it", s.has(2000, 640), true);
        s.move(0, 2000);
        due("a move is none", s.count(2), 2000);
        s.line(0, 2000);
        isEmpty("a dot more", s);
        s.plain(0);
        due("no longer", s.count(2), 2);
        due("no longer, in it", s.has(2000, 640), true);
        StrokeRaster more = lined(64, 1, 0, 640, 4001, 640);
        more.dash(1);
        isEmpty("a piece more", more);
        more.pen(4096, 2, 2, 8192);
        isEmpty("with another pen", more);
        more.plain(1);
        more.dash(1);
        due("2000 by a phase", more.count(2), 2000);
        StrokeRaster dots = new StrokeRaster();
        for (int i = 0; i < 63; i++) {
            dots.move(100 * i, 3000);
            dots.close();
        }
        dots.dash(1);
        dots.move(0, 640);
        dots.line(3874, 640);
        due("dots first", dots.count(2), 2000);
        dots.line(3875, 640);
        isEmpty("dots first, one more", dots);
    }

    private static void isEmpty(String what, StrokeRaster s) {
        due(what, s.count(2), StrokeRaster.FULL);
        due(what + ", pixels", s.count(3), 0);
        due(what + ", point", s.has(1, 640), false);
        due(what + ", row", s.row(53), 0L);
        due(what + ", share", s.share(1, 53), 0);
        due(what + ", subpaths stay", s.count(0) > 0, true);
    }

    private static void promise09TooManyOfZero() {
        says(9, "There are at most 2000 pieces");
        StrokeRaster s = lined(64, 1, 0, 640, 500, 640);
        dash(s, 0, 1, 0, 0, 0, 0, 0, 0, 0);
        due("a unit and three of 0, 500 times", s.count(2), 2000);
        s.line(501, 640);
        isEmpty("once more", s);
        s.clear();
        s.move(0, 640);
        s.line(HIGH, HIGH);
        isEmpty("far too many", s);
    }

    // ---- promise 10

    private static void promise10Refused() {
        says(10, "IllegalArgument: it is out of bounds.");
        int[] out = {-1, 65536, Integer.MIN_VALUE, Integer.MAX_VALUE};
        for (int phase : out) {
            refused("plain " + phase, ARGUMENT, BoundaryTests::rich, s -> s.plain(phase));
            refused("plain " + phase + " without dashes", ARGUMENT, StrokeRaster::new, s -> s.plain(phase));
        }
    }

    private static void promise10HowMany() {
        says(10, "No dashes, and this PHASE: how many dashes there were.");
        StrokeRaster s = dashed(0, 0, 1, 2, 3, 4, 5, 6, 7, 8);
        due("eight", s.plain(65535), 8);
        due("none", s.plain(0), 0);
        due("plain", s.count(2), 1);
        s.dash(0);
        due("one of 0", s.plain(30), 1);
        s.dash(100);
        due("this phase", s.has(71, 640), false);
        due("this phase, on", s.has(70, 640), true);
        due("the path stays", s.count(1), 2);
        due("the pen stays", s.has(0, 672), true);
    }

    private static void promise10NotLess() {
        says(10, "as long as what is left of the PHASE is not less than the DASH, that is gone from it, and the next one follows; then the DASH is less by what is left");
        StrokeRaster less = dashed(0, 99, 100, 50);
        due("one less, on", less.has(1, 640), true);
        due("one less, off", less.has(2, 640), false);
        StrokeRaster just = dashed(0, 100, 100, 50);
        due("just the dash, off", just.has(0, 640), false);
        due("just the dash, off up to 50", just.has(49, 640), false);
        due("just the dash, on", just.has(50, 640), true);
        StrokeRaster more = dashed(0, 101, 100, 50);
        due("one more, off", more.has(48, 640), false);
        due("one more, on", more.has(49, 640), true);
        StrokeRaster round = dashed(0, 150, 100, 50);
        due("a round, on", round.has(100, 640), true);
        due("a round, off", round.has(101, 640), false);
        StrokeRaster off = dashed(0, 149, 100, 50);
        due("one less than a round", off.has(0, 640), false);
        due("one less than a round, on", off.has(1, 640), true);
    }

    private static void promise10Zero() {
        says(10, "as long as what is left of the PHASE is not less than the DASH");
        StrokeRaster first = dashed(1, 0, 0, 100);
        due("0 is not less than 0", first.has(0, 640), false);
        due("ten pieces", first.count(2), 10);
        due("the first of them", first.has(100, 640), true);
        StrokeRaster off = dashed(0, 0, 0, 0, 100, 50);
        due("two of 0, then on", off.has(100, 640), true);
        due("two of 0, then off", off.has(101, 640), false);
        StrokeRaster behind = dashed(1, 100, 100, 0, 0, 300);
        due("of 0 behind the phase", behind.has(0, 640), false);
        StrokeRaster round = dashed(0, 200, 0, 200);
        due("a whole round", round.count(2), 5);
        due("a whole round, butt", round.count(3), 0);
    }

    private static void promise10WrapAround() {
        says(10, "beginning anew behind the last");
        StrokeRaster odd = dashed(0, 300, 100);
        due("three times 100 is off", odd.has(99, 640), false);
        due("three times 100, then on", odd.has(100, 640), true);
        StrokeRaster even = dashed(0, 400, 100);
        due("four times 100 is on", even.has(100, 640), true);
        due("four times 100, then off", even.has(101, 640), false);
        StrokeRaster units = dashed(0, 65535, 1);
        due("65,535 times 1 is off", units.has(0, 640), false);
        due("65,535 times 1, then on", units.has(1, 640), true);
        StrokeRaster three = dashed(0, 180, 100, 50, 30);
        due("a round of three, off", three.has(99, 640), false);
        due("a round of three, on", three.has(125, 640), true);
        StrokeRaster twice = dashed(0, 360, 100, 50, 30);
        due("two rounds of three, on", twice.has(50, 640), true);
        due("two rounds of three, off", twice.has(125, 640), false);
    }

    private static void promise10Steps() {
        says(10, "that is gone from it, and the next one follows");
        StrokeRaster eight = dashed(0, 159, 10, 10, 10, 10, 10, 10, 10, 10);
        due("fifteen are passed over, off", eight.has(0, 640), false);
        due("fifteen are passed over, on", eight.has(1, 640), true);
        StrokeRaster seven = dashed(0, 139, 10, 10, 10, 10, 10, 10, 10);
        due("thirteen are passed over, off", seven.has(0, 640), false);
        due("thirteen are passed over, on", seven.has(1, 640), true);
        due("thirteen are passed over, on up to", seven.has(11, 640), true);
        due("thirteen are passed over, off again", seven.has(12, 640), false);
        StrokeRaster zeros = lined(2, 1, 0, 640, 10, 640);
        dash(zeros, 1, 0, 0, 0, 0, 0, 0, 0, 1);
        // behind seven of 0, a unit and seven of 0 more a unit is off, then four of 0 are on at each unit
        due("fifteen, most of them 0", zeros.count(2), 40);
        due("fifteen, most of them 0, off at the beginning", zeros.has(-1, 640), false);
    }

    private static void promise10Anew() {
        says(10, "No dashes, and this PHASE");
        StrokeRaster s = dashed(0, 130, 100, 50);
        due("the first phase", s.has(19, 640), false);
        dash(s, 0, 70, 30);
        due("another one, on", s.has(70, 640), true);
        due("another one, off", s.has(71, 640), false);
        dash(s, 75, 70, 30, 20);
        due("a third one, off", s.has(24, 640), false);
        due("a third one, on", s.has(25, 640), true);
        dash(s, 0, 40);
        due("a fourth one, on", s.has(0, 640), true);
        due("a fourth one, off", s.has(41, 640), false);
        s.plain(0);
        due("none, on", s.has(41, 640), true);
        due("none, a whole piece", s.count(2), 1);
    }

    private static void promise10Greatest() {
        says(10, "a PHASE 0 .. 65,535");
        StrokeRaster eight = dashed(0, 65535, 8192, 8192, 8192, 8192, 8192, 8192, 8192, 8192);
        due("a unit of the eighth, off", eight.has(0, 640), false);
        due("a unit of the eighth, then on", eight.has(1, 640), true);
        StrokeRaster seven = dashed(0, 65535, 8192, 8192, 8192, 8192, 8192, 8192, 8192);
        due("a unit of the eighth in turn, off", seven.has(0, 640), false);
        due("a unit of the eighth in turn, then on", seven.has(1, 640), true);
        StrokeRaster all = dashed(0, 65535, 8192, 8192, 8192, 8192, 8192, 8192, 8192, 8191);
        due("just all eight, on", all.has(1000, 640), true);
        due("just all eight, on from the beginning", all.has(0, 640), true);
    }

    // ---- promise 11

    private static void promise11Another() {
        says(11, "NONE for another what");
        int[] others = {-1, -2, 4, 5, 64, Integer.MIN_VALUE, Integer.MAX_VALUE};
        for (int what : others) {
            due("count " + what, rich().count(what), StrokeRaster.NONE);
            due("count " + what + " of a new one", new StrokeRaster().count(what), StrokeRaster.NONE);
        }
        due("NONE", StrokeRaster.NONE, -1);
        due("FULL", StrokeRaster.FULL, -2);
    }

    private static void promise11LeftOut() {
        says(11, "1 points of the path (also those that are left out)");
        StrokeRaster s = new StrokeRaster();
        s.control(5, 5, 5, 5);
        s.move(5, 5);
        s.curve(5, 5);
        s.line(5, 5);
        due("all at one place", s.count(1), 18);
        due("one piece", s.count(2), 1);
        s.line(9, 9);
        s.line(5, 5);
        s.close();
        due("the last where the first is", s.count(1), 20);
        due("two pieces", s.count(2), 2);
        due("subpaths", s.count(0), 1);
        due("the most", withPoints(1024).count(1), 1024);
        due("the most subpaths", withSubpaths(64).count(0), 64);
    }

    private static void promise11Pixels() {
        says(11, "3 pixels that are SET");
        StrokeRaster all = lined(4096, 0, -10, 2048, 4110, 2048);
        due("all", all.count(3), 4096);
        due("none", lined(64, 1, -1000, 2048, -100, 2048).count(3), 0);
        due("one", dotted(32, 32).count(3), 1);
        due("a point beside a middle", dotted(33, 32).count(3), 0);
        due("the first corner", dotted(32, 4064).count(3), 1);
        due("the last corner", dotted(4064, 32).count(3), 1);
        due("beyond the picture", dotted(4128, 32).count(3), 0);
        due("before the picture", dotted(-32, 32).count(3), 0);
        due("above the picture", dotted(32, 4128).count(3), 0);
        due("below the picture", dotted(32, -32).count(3), 0);
    }

    private static void promise11Beyond() {
        says(11, "THE PICTURE has 64 by 64 PIXELS");
        due("upright", lined(4096, 0, 2048, -8000, 2048, 8000).count(3), 4096);
        due("flat", lined(4096, 0, -8000, 2048, 8000, 2048).count(3), 4096);
        due("square caps", lined(4096, 2, 2048, 2048, 2049, 2048).count(3), 4096);
        due("a slanted one", lined(4096, 1, LOW, LOW, HIGH, HIGH).count(3) > 3000, true);
        StrokeRaster disc = new StrokeRaster();
        disc.pen(2896, 1, 0, 640);
        int[][] corners = {{0, 0}, {0, 4096}, {4096, 0}, {4096, 4096}};
        for (int[] p : corners) {
            disc.move(p[0], p[1]);
            disc.close();
        }
        due("four discs, the first row", disc.row(0), ends(1448, 32));
        due("four discs, the last row", disc.row(63), ends(1448, 32));
        disc.pen(4096, 1, 0, 640);
        due("four discs, the first row, wider", disc.row(0), ends(2048, 32));
        StrokeRaster first = lined(4032, 0, -10, 2016, 4110, 2016);
        due("all but the uppermost row", first.count(3), 4032);
        first.move(-10, 4064);
        first.line(4110, 4064);
        due("and then that, too", first.count(3), 4096);
        first.line(4110, 0);
        first.move(0, 0);
        first.line(4096, 4096);
        due("and then more over it", first.count(3), 4096);
        due("and then more over it, a row", first.row(5), -1L);
        due("and then more over it, a share", first.share(5, 5), 16);
        due("and then more over it, a point", first.has(2000, 2000), true);
    }

    /** The pixels of a row whose middles are not further than so much from a corner so far above or below. */
    private static long ends(int radius, int away) {
        long bits = 0;
        for (int x = 0; x < 64; x++) {
            int dx = Math.min(64 * x + 32, 4096 - 64 * x - 32);
            bits |= dx * dx + away * away <= radius * radius ? 1L << x : 0;
        }
        return bits;
    }

    private static void promise11Full() {
        says(11, "2 pieces, or FULL");
        StrokeRaster s = lined(64, 0, 0, 640, 4000, 640);
        s.dash(1);
        due("2000", s.count(2), 2000);
        s.line(4001, 640);
        due("2000 on, the next is off", s.count(2), StrokeRaster.FULL);
        due("asked again", s.count(2), StrokeRaster.FULL);
        due("points", s.count(1), 3);
        s.dash(2);
        due("fewer", s.count(2), 1334);
    }

    // ---- promise 12

    private static void promise12Bounds() {
        says(12, "IllegalArgument: a coordinate is not -16,384 .. 16,383.");
        int[][] out = {{16384, 0}, {-16385, 0}, {0, 16384}, {0, -16385}, {Integer.MIN_VALUE, 0}, {0, Integer.MIN_VALUE},
            {Integer.MAX_VALUE, 0}, {0, Integer.MAX_VALUE}, {16384, -16385}};
        for (int[] p : out) {
            refused("has " + p[0] + ", " + p[1], ARGUMENT, BoundaryTests::rich, s -> s.has(p[0], p[1]));
            refused("has " + p[0] + ", " + p[1] + " of a new one", ARGUMENT, StrokeRaster::new, s -> s.has(p[0], p[1]));
        }
        int[][] in = {{16383, 16383}, {-16384, 16383}, {16383, -16384}, {-16384, -16384}};
        for (int[] p : in) {
            due("has " + p[0] + ", " + p[1], rich().has(p[0], p[1]), false);
        }
    }

    private static void promise12OverItself() {
        says(12, "whether a point lies in the stroke is decided in whole numbers, whatever lies over itself");
        StrokeRaster once = lined(64, 0, 640, 640, 1920, 640);
        StrokeRaster twice = cornered(64, 2, 640, 640, 640, 1920, 640, 640, 640);
        StrokeRaster round = cornered(64, 2, 640, 640, 640, 1920, 640, 640, 640, 1920, 640);
        round.close();
        for (int x = 600; x <= 1960; x += 8) {
            due("there and back at " + x, twice.has(x, 640), once.has(x, 640));
            due("closed, at " + x, round.has(x, 650), once.has(x, 650));
        }
        due("there and back, pixels", twice.count(3), once.count(3));
        due("four times, pixels", round.count(3), once.count(3));
        StrokeRaster cross = lined(64, 0, 640, 1280, 1920, 1280);
        cross.move(1280, 640);
        cross.line(1280, 1920);
        due("where two cross", cross.has(1280, 1280), true);
        due("a corner of both", cross.has(1312, 1312), true);
        due("beyond it", cross.has(1313, 1313), false);
        // a square gone round to the left, and one inside it to the right: what is between is no part of the stroke
        StrokeRaster rings = cornered(64, 0, 640, 640, 640, 1920, 640, 1920, 1920, 640, 1920);
        rings.close();
        rings.move(960, 960);
        rings.line(960, 1600);
        rings.line(1600, 1600);
        rings.line(1600, 960);
        rings.close();
        due("the outer one", rings.has(1280, 640), true);
        due("the inner one", rings.has(960, 1280), true);
        due("between", rings.has(800, 1280), false);
        due("inside", rings.has(1280, 1280), false);
    }

    private static void promise12Farthest() {
        says(12, "Whether a point is in the stroke.");
        // miters that reach some 80,000 units
        StrokeRaster right = cornered(4096, 0, 8192, 0, -200, 8000, 0, 0, 200);
        due("to the right", right.has(16383, 0), true);
        due("to the right, no cap", right.has(-16384, 0), false);
        StrokeRaster left = cornered(4096, 0, 8192, 0, -200, -8000, 0, 0, 200);
        due("to the left", left.has(-16384, 0), true);
        StrokeRaster above = cornered(4096, 0, 8192, -200, 0, 0, 8000, 200, 0);
        due("above", above.has(0, 16383), true);
        StrokeRaster below = cornered(4096, 0, 8192, -200, 0, 0, -8000, 200, 0);
        due("below", below.has(0, -16384), true);
        due("a single point", dotted(HIGH, LOW).has(HIGH, LOW), true);
        due("a single point, beside", dotted(HIGH, LOW).has(HIGH + 1, LOW), false);
        due("a single point, below", dotted(HIGH, LOW).has(HIGH, LOW - 1), false);
        StrokeRaster wide = lined(4096, 2, HIGH, HIGH, HIGH - 1, HIGH);
        due("beyond the coordinates", wide.has(10239, 10239), true);
        due("beyond the stroke", wide.has(10240, HIGH), false);
    }

    // ---- promise 13

    private static void promise13Bounds() {
        says(13, "IndexOutOfBounds: there is none such.");
        int[] out = {-1, 64, -64, Integer.MIN_VALUE, Integer.MAX_VALUE};
        for (int r : out) {
            refused("row " + r, INDEX, BoundaryTests::rich, s -> s.row(r));
            refused("row " + r + " of a new one", INDEX, StrokeRaster::new, s -> s.row(r));
        }
        due("the first", rich().row(0), 0L);
        due("the last", lined(64, 0, 0, 32, 4096, 32).row(63), -1L);
    }

    private static void promise13Bits() {
        says(13, "A row of the picture: bit x is pixel x.");
        for (int x = 0; x < 64; x++) {
            due("pixel " + x, dotted(64 * x + 32, 64 * (63 - x) + 32).row(x), 1L << x);
        }
        due("beyond the last", dotted(64 * 64 + 32, 32).row(63), 0L);
        due("before the first", dotted(-32, 32).row(63), 0L);
        due("a whole row", lined(1, 0, 32, 96, 4064, 96).row(62), -1L);
        due("all but the last", lined(1, 0, 32, 96, 4063, 96).row(62), Long.MAX_VALUE);
        due("all but the first", lined(1, 0, 33, 96, 4064, 96).row(62), -2L);
    }

    private static void promise13Middles() {
        says(13, "pixel x of row r, both 0 .. 63, has its middle at 64 x + 32, 64 (63 - r) + 32, and is SET if that is in the stroke");
        StrokeRaster edges = lined(64, 0, 0, 64, 4096, 64);
        due("the lower edge", edges.row(63), -1L);
        due("the upper edge", edges.row(62), -1L);
        due("beyond the upper edge", edges.row(61), 0L);
        StrokeRaster lower = lined(64, 0, 0, 63, 4096, 63);
        due("one less, the lower", lower.row(63), -1L);
        due("one less, the upper", lower.row(62), 0L);
        StrokeRaster upright = lined(64, 0, 64, 0, 64, 4096);
        due("both columns", upright.row(30), 3L);
        due("one column", lined(64, 0, 65, 0, 65, 4096).row(30), 2L);
        due("the uppermost row", lined(64, 0, 0, 4064, 4096, 4064).row(0), -1L);
        due("not the next row", lined(64, 0, 0, 4064, 4096, 4064).row(1), 0L);
        due("a point beside the middle", dotted(31, 32).row(63), 0L);
        due("a point below the middle", dotted(32, 31).row(63), 0L);
    }

    private static void promise13Upwards() {
        says(13, "in 64ths of a pixel, y growing upwards");
        StrokeRaster low = lined(64, 0, 0, 32, 64, 32);
        due("the lowest row", low.row(63), 1L);
        due("the row above", low.row(62), 0L);
        due("one pixel", low.count(3), 1);
        due("all of it", low.share(0, 63), 16);
        due("none of its neighbour", low.share(1, 63), 0);
        StrokeRaster high = lined(64, 0, 4032, 4064, 4096, 4064);
        due("the highest row", high.row(0), Long.MIN_VALUE);
        due("the row below", high.row(1), 0L);
        due("one pixel", high.count(3), 1);
        due("all of it", high.share(63, 0), 16);
    }

    private static void promise13FromOutside() {
        says(13, "A row of the picture");
        // the corner lies left of the picture, and its miter reaches into it
        StrokeRaster s = cornered(64, 0, 8192, -8000, 1916, -100, 2016, -8000, 2116);
        due("a far miter", s.row(32) & 15L, 15L);
        StrokeRaster wide = lined(4096, 0, -2000, 0, -2000, 4096);
        due("a wide pen", wide.row(10), 1L);
        StrokeRaster disc = new StrokeRaster();
        disc.pen(4096, 1, 0, 640);
        disc.move(-2016, 2016);
        disc.close();
        due("a wide dot", disc.row(32), 1L);
        due("a wide dot, the next row", disc.row(31), 0L);
    }

    private static void promise13OneByOne() {
        says(13, "A row of the picture");
        StrokeRaster all = lined(4096, 0, -10, 2048, 4110, 2048);
        for (int r = 0; r < 64; r++) {
            due("upwards, row " + r, all.row(r), -1L);
        }
        all.pen(4095, 0, 0, 640);
        for (int r = 63; r >= 0; r--) {
            due("downwards, row " + r, all.row(r), -1L);
            due("once more, row " + r, all.row(r), -1L);
        }
        for (int asked = 0; asked < 64; asked++) {
            StrokeRaster one = lined(4096, 0, -10, 2048, 4110, 2048);
            one.row(asked);
            due("count behind row " + asked, one.count(3), 4096);
        }
        for (int left = 0; left < 64; left++) {
            StrokeRaster most = lined(4096, 0, -10, 2048, 4110, 2048);
            for (int r = 0; r < 64; r++) {
                if (r != left) {
                    most.row(r);
                }
            }
            due("count behind all rows but " + left, most.count(3), 4096);
        }
    }

    private static void promise13Changes() {
        says(13, "is SET if that is in the stroke");
        Order[] changes = {s -> s.move(100, 100), s -> s.line(4000, 2000), s -> s.curve(4000, 300), s -> s.close(),
            s -> s.clear(), s -> s.pen(600, 1, 2, 640), s -> s.dash(300), s -> s.plain(200)};
        for (int i = 0; i < changes.length; i++) {
            StrokeRaster asked = rich();
            StringBuilder before = new StringBuilder();
            seeStroke(asked, before);
            StrokeRaster fresh = rich();
            changes[i].to(asked);
            changes[i].to(fresh);
            due("change " + i + " is seen behind questions", probed(asked), probed(fresh));
        }
    }

    // ---- promise 14

    private static void promise14Bounds() {
        says(14, "IndexOutOfBounds: there is none such.");
        int[][] out = {{-1, 0}, {64, 0}, {0, -1}, {0, 64}, {-1, -1}, {64, 64}, {Integer.MIN_VALUE, 0}, {0, Integer.MIN_VALUE},
            {Integer.MAX_VALUE, 0}, {0, Integer.MAX_VALUE}};
        for (int[] p : out) {
            refused("share " + p[0] + ", " + p[1], INDEX, BoundaryTests::rich, s -> s.share(p[0], p[1]));
        }
        refused("of a new one", INDEX, StrokeRaster::new, s -> s.share(64, 0));
        int[][] in = {{0, 0}, {63, 0}, {0, 63}, {63, 63}};
        StrokeRaster all = lined(4096, 0, -10, 2048, 4110, 2048);
        for (int[] p : in) {
            due("all of share " + p[0] + ", " + p[1], all.share(p[0], p[1]), 16);
            due("none of share " + p[0] + ", " + p[1], new StrokeRaster().share(p[0], p[1]), 0);
        }
    }

    private static void promise14Points() {
        says(14, "Its SHARE is how many of sixteen points are: 64 x + 8 + 16 i, 64 (63 - r) + 8 + 16 j, for i and j 0 .. 3.");
        for (int i = -1; i <= 4; i++) {
            for (int j = -1; j <= 4; j++) {
                StrokeRaster s = dotted(64 * 5 + 8 + 16 * i, 64 * (63 - 61) + 8 + 16 * j);
                boolean inside = i >= 0 && i < 4 && j >= 0 && j < 4;
                due("point " + i + ", " + j, s.share(5, 61), inside ? 1 : 0);
            }
        }
        due("no point of them", dotted(64 * 5 + 32, 64 * 2 + 32).share(5, 61), 0);
        due("not the pixel's corner", dotted(64 * 5, 64 * 2).share(5, 61), 0);
        due("beside", dotted(64 * 5 + 9, 64 * 2 + 8).share(5, 61), 0);
        due("x is first", dotted(64 * 5 + 8, 64 * 2 + 8).share(61, 5), 0);
    }

    private static void promise14Edges() {
        says(14, "A pixel's SHARE.");
        due("both edges", lined(16, 0, 0, 16, 4096, 16).share(7, 63), 8);
        due("one edge", lined(16, 0, 0, 15, 4096, 15).share(7, 63), 4);
        due("three lines", lined(32, 0, 0, 40, 4096, 40).share(7, 63), 12);
        due("upright", lined(16, 0, 16, 0, 16, 4096).share(0, 9), 8);
        due("a corner", lined(16, 0, 0, 16, 24, 16).share(0, 63), 4);
        due("the middle alone is not asked", lined(1, 0, 32, 0, 32, 4096).share(0, 9), 0);
        due("too many pieces", fullShare(), 0);
        StrokeRaster two = lined(32, 0, 0, 24, 4096, 24);
        due("three lines at first", two.share(7, 63), 12);
        two.move(0, 56);
        two.line(4096, 56);
        due("then all", two.share(7, 63), 16);
    }

    private static int fullShare() {
        StrokeRaster s = lined(64, 0, 0, 32, 4001, 32);
        s.dash(1);
        return s.share(0, 63);
    }

    // ---- all promises

    /** The dearest path there is, then changes and questions up to the last call that is promised. */
    private static void promise14LastCall() {
        says(14, "An object is used for at most 512 calls after it has been made");
        StrokeRaster s = withPoints(1024);
        int calls = 81;
        for (int i = 0; calls + 5 <= 510; i++) {
            s.pen(1 + 40 * i, i % 3, i / 3 % 3, 64 + i);
            s.plain(i);
            s.dash(50 + i);
            s.dash(i % 7);
            s.count(3);
            calls += 5;
        }
        s.pen(100, 1, 1, 640);
        s.plain(0);
        StrokeRaster fresh = withPoints(1024);
        fresh.pen(100, 1, 1, 640);
        due("the last question", s.share(40, 30), fresh.share(40, 30));
    }

    private static List<Method> tests() {
        List<Method> found = new ArrayList<>();
        for (Method m : BoundaryTests.class.getDeclaredMethods()) {
            if (m.getName().startsWith("promise") && m.getParameterCount() == 0 && Modifier.isStatic(m.getModifiers())) {
                found.add(m);
            }
        }
        found.sort((a, b) -> a.getName().compareTo(b.getName()));
        return found;
    }

    private static void run(Method test) throws IllegalAccessException {
        place = test.getName();
        try {
            test.invoke(null);
        } catch (InvocationTargetException e) {
            wrong++;
            System.out.println(place + ": in " + test.getName() + " threw " + e.getCause());
        }
    }

    private static void lookUp(Path document) throws Exception {
        String text = Files.readString(document).replaceAll("\\s+", " ");
        for (String sentence : SAID.keySet()) {
            place = "the document";
            due(sentence, text.contains(sentence), true);
        }
    }

    public static void main(String[] args) throws Exception {
        Set<String> promises = new TreeSet<>();
        for (Method test : tests()) {
            promises.add(test.getName().substring(0, 9));
            run(test);
        }
        place = "all";
        due("promises", promises.size(), 14);
        if (args.length > 0) {
            lookUp(Path.of(args[0]));
        }
        System.out.println(SAID.size() + " sentences, " + asked + " asked, " + wrong + " wrong");
        if (wrong != 0) {
            System.exit(1);
        }
    }
}
