/** Each promise of the document by itself: ordinary calls, the edges it names, and wrong inputs. */
public final class PromiseTests {
    private static int wrong = 0;
    private static int asked = 0;

    interface Call {
        Object answer();
    }

    interface Order {
        void carryOut();
    }

    private static final String ARGUMENT = "IllegalArgumentException";
    private static final String STATE = "IllegalStateException";
    private static final String INDEX = "IndexOutOfBoundsException";

    private static void due(String what, Object got, Object want) {
        asked++;
        if (!got.equals(want)) {
            wrong++;
            System.out.println(what + ": " + got + ", due is " + want);
        }
    }

    private static void throwsIt(String what, String name, Call call) {
        String got = "nothing";
        try {
            call.answer();
        } catch (RuntimeException e) {
            got = e.getClass().getSimpleName();
        }
        due(what, got, name);
    }

    private static void refuses(String what, Order order) {
        throwsIt(what, ARGUMENT, () -> {
            order.carryOut();
            return 0;
        });
    }

    /** A line of the width w from (x, y) to (u, v). */
    private static StrokeRaster lined(int w, int caps, int x, int y, int u, int v) {
        StrokeRaster s = new StrokeRaster();
        s.pen(w, caps, 0, 640);
        s.move(x, y);
        s.line(u, v);
        return s;
    }

    private static void newObject() {
        StrokeRaster s = new StrokeRaster();
        due("1: NONE", StrokeRaster.NONE, -1);
        due("1: FULL", StrokeRaster.FULL, -2);
        for (int what = 0; what <= 3; what++) {
            due("1: count " + what, s.count(what), 0);
        }
        due("1: has", s.has(0, 0), false);
        due("1: row", s.row(0), 0L);
        due("1: share", s.share(0, 0), 0);
        due("1: no dashes", s.plain(0), 0);
        throwsIt("1: no path", STATE, () -> s.line(0, 0));
        s.move(640, 640);
        s.line(1280, 640);
        due("1: width 64", s.has(1000, 672), true);
        due("1: width 64, beyond", s.has(1000, 673), false);
        due("1: caps butt", s.has(639, 640), false);
        s.line(1280, 1280);
        due("1: joins miter", s.has(1312, 608), true);
        s.clear();
        s.move(0, 0);
        s.line(1000, 25);
        s.line(0, 199);
        // offsets (13, -512), (88, 504): H^2 + o . p is 5240, and 640 asks for 5243, 641 for 5227
        due("1: limit 640", s.has(1300, 1), false);
        s.clear();
        s.move(0, 0);
        s.line(1000, 13);
        s.line(0, 198);
        // offsets (7, -512), (93, 503): 5259, and 639 asks for 5260
        due("1: limit 640, not less", s.has(1300, -14), true);
        StrokeRaster t = new StrokeRaster();
        t.dash(100);
        t.move(0, 640);
        t.line(1000, 640);
        due("1: phase 0", t.has(99, 640), true);
        due("1: phase 0, beyond", t.has(101, 640), false);
    }

    /** Tells points up to the 1024th, with curves as far as they go: an object is good for 512 calls alone. */
    private static void fill(StrokeRaster s) {
        for (int points = s.count(1); points + 16 <= 1024; points += 16) {
            due("5: more", s.curve(64 + points, 4000 - 2 * points), points + 16);
        }
        for (int points = s.count(1); points < 1024; points++) {
            due("3: more", s.line(64 + points, 2000 + points), points + 1);
        }
    }

    private static void moves() {
        StrokeRaster s = new StrokeRaster();
        due("2: first", s.move(-8192, 8191), 1);
        due("2: second", s.move(8191, -8192), 2);
        int[][] out = {{8192, 0}, {-8193, 0}, {0, 8192}, {0, -8193}, {Integer.MIN_VALUE, 0}, {0, Integer.MAX_VALUE}};
        for (int[] p : out) {
            throwsIt("2: out of bounds", ARGUMENT, () -> s.move(p[0], p[1]));
        }
        due("2: a throw changes nothing", s.count(0), 2);
        for (int i = 3; i <= 64; i++) {
            due("2: more", s.move(i, i), i);
        }
        throwsIt("2: 64 subpaths", STATE, () -> s.move(0, 0));
        throwsIt("2: the first one wins", ARGUMENT, () -> s.move(8192, 0));
        due("2: still 64", s.count(0), 64);
        due("2: a point each", s.count(1), 64);
        due("2: no dots", s.count(2), 0);
        StrokeRaster t = new StrokeRaster();
        t.control(100, 4000, 3000, 200);
        t.move(0, 0);
        fill(t);
        throwsIt("2: 1024 points", STATE, () -> t.move(0, 0));
        due("2: none begun", t.count(0), 1);
        due("2: 1023 pieces", t.count(2), 1023);
    }

    private static void lines() {
        StrokeRaster s = new StrokeRaster();
        throwsIt("3: no subpath", STATE, () -> s.line(0, 0));
        throwsIt("3: the first one wins", ARGUMENT, () -> s.line(0, 9000));
        s.move(100, 100);
        due("3: second point", s.line(-8192, 8191), 2);
        due("3: the same place counts", s.line(-8192, 8191), 3);
        due("3: left out", s.count(2), 1);
        int[][] out = {{8192, 0}, {-8193, 0}, {0, 8192}, {0, -8193}};
        for (int[] p : out) {
            throwsIt("3: out of bounds", ARGUMENT, () -> s.line(p[0], p[1]));
        }
        due("3: a throw changes nothing", s.count(1), 3);
        s.close();
        throwsIt("3: closed", STATE, () -> s.line(0, 0));
        s.move(0, 0);
        fill(s);
        throwsIt("3: 1025 points", STATE, () -> s.line(0, 0));
        due("3: still 1024", s.count(1), 1024);
    }

    private static void controls() {
        StrokeRaster s = new StrokeRaster();
        s.pen(2, 1, 1, 640);
        s.control(-8192, 8191, 8191, -8192);
        s.control(0, 1600, 1600, 1600);
        for (int i = 0; i < 4; i++) {
            int[] low = new int[4];
            int[] high = new int[4];
            low[i] = -8193;
            high[i] = 8192;
            refuses("4: too low", () -> s.control(low[0], low[1], low[2], low[3]));
            refuses("4: too high", () -> s.control(high[0], high[1], high[2], high[3]));
        }
        s.move(0, 0);
        s.curve(1600, 0);
        due("4: the controls told last", s.has(800, 1200), true);
        s.clear();
        s.move(0, 0);
        s.curve(1600, 0);
        due("4: they stay", s.has(800, 1200), true);
    }

    private static void curves() {
        StrokeRaster s = new StrokeRaster();
        throwsIt("5: no subpath", STATE, () -> s.curve(0, 0));
        throwsIt("5: the first one wins", ARGUMENT, () -> s.curve(8192, 0));
        s.pen(1, 1, 1, 640);
        s.move(4096, 4096);
        due("5: sixteen points", s.curve(0, 0), 17);
        due("5: controls 0 at first", s.has(512, 512), true);
        due("5: all of it on the line", s.has(1000, 1003), false);
        due("5: sixteen pieces", s.count(2), 16);
        throwsIt("5: out of bounds", ARGUMENT, () -> s.curve(0, -8193));
        due("5: a throw changes nothing", s.count(1), 17);
        s.close();
        throwsIt("5: closed", STATE, () -> s.curve(0, 0));
        s.clear();
        s.control(0, 0, 1, 1);
        s.move(0, 0);
        s.curve(1, 1);
        // the points are 0 up to the seventh and 1 from the eighth on (half is rounded up)
        due("5: points that are left out", s.count(2), 1);
        s.clear();
        s.move(3, -3);
        s.control(3, -3, 3, -3);
        s.curve(3, -3);
        due("5: a dot", s.count(2), 1);
        s.clear();
        s.move(-5, 0);
        s.control(-4, 0, -2, 0);
        s.curve(-1, 0);
        // at k = 8 it is (-5 - 12 - 6 - 1) / 8 = -3; a quotient towards 0 would give another point somewhere
        due("5: rounded down", s.count(2), 4);
        StrokeRaster t = new StrokeRaster();
        t.move(0, 0);
        for (int i = 1; i <= 63; i++) {
            t.curve(i, i);
        }
        due("5: 1009 points", t.count(1), 1009);
        throwsIt("5: 1025 points", STATE, () -> t.curve(0, 0));
        due("5: none of them", t.count(1), 1009);
        StrokeRaster u = new StrokeRaster();
        for (int i = 0; i < 16; i++) {
            u.move(0, 0);
        }
        for (int i = 1; i <= 63; i++) {
            u.curve(i, i);
        }
        due("5: 1024 points", u.count(1), 1024);
    }

    private static void closing() {
        StrokeRaster s = new StrokeRaster();
        throwsIt("6: none", STATE, () -> s.close());
        s.pen(64, 0, 0, 640);
        s.move(640, 640);
        s.line(1280, 640);
        s.line(1280, 1280);
        due("6: open", s.has(900, 900), false);
        due("6: first", s.close(), 1);
        due("6: a segment more", s.count(2), 3);
        due("6: back to the first", s.has(900, 900), true);
        due("6: a join there", s.has(570, 610), true);
        throwsIt("6: again", STATE, () -> s.close());
        due("6: one closed", s.count(0), 1);
        s.move(0, 0);
        s.move(5, 5);
        due("6: second", s.close(), 2);
        s.clear();
        throwsIt("6: cleared", STATE, () -> s.close());
        s.move(640, 640);
        s.line(1280, 640);
        s.line(640, 640);
        due("6: counted anew", s.close(), 1);
        due("6: the last one where the first is", s.count(2), 2);
        due("6: no cap", s.has(639, 640), false);
        s.pen(64, 0, 1, 640);
        due("6: round join at the first", s.has(608, 640), true);
    }

    private static void clearing() {
        StrokeRaster s = new StrokeRaster();
        due("7: nothing", s.clear(), 0);
        s.pen(128, 0, 0, 640);
        s.control(0, 640, 640, 640);
        s.dash(1000);
        s.move(0, 0);
        s.move(640, 640);
        s.line(640, 0);
        due("7: there", s.has(640, 320), true);
        due("7: two", s.clear(), 2);
        due("7: gone", s.has(640, 320), false);
        due("7: no subpath", s.count(0), 0);
        due("7: no point", s.count(1), 0);
        due("7: no piece", s.count(2), 0);
        due("7: no pixel", s.count(3), 0);
        s.move(0, 640);
        s.line(1280, 640);
        due("7: the width stays", s.has(500, 704), true);
        due("7: the dash stays", s.has(1100, 640), false);
        due("7: how many dashes", s.plain(0), 1);
    }

    private static void pens() {
        StrokeRaster s = lined(4096, 0, 0, 0, 8191, 0);
        due("8: widest", s.has(4000, 2048), true);
        due("8: widest, beyond", s.has(4000, 2049), false);
        s.pen(1, 2, 2, 8192);
        due("8: narrowest", s.has(4000, 0), true);
        due("8: narrowest, beyond", s.has(4000, 1), false);
        int[][] out = {{0, 0, 0, 640}, {4097, 0, 0, 640}, {64, -1, 0, 640}, {64, 3, 0, 640}, {64, 0, -1, 640},
            {64, 0, 3, 640}, {64, 0, 0, 63}, {64, 0, 0, 8193}};
        for (int[] p : out) {
            refuses("8: out of bounds", () -> s.pen(p[0], p[1], p[2], p[3]));
        }
        due("8: a throw changes nothing", s.has(4000, 1), false);
        caps();
        joins();
        slanted();
    }

    private static void caps() {
        StrokeRaster s = lined(128, 1, 1000, 1000, 2000, 1000);
        due("8: round", s.has(936, 1000), true);
        due("8: round, beyond", s.has(935, 1000), false);
        due("8: round, by squares", s.has(2045, 1045), true);
        due("8: round, not square", s.has(2046, 1046), false);
        s.pen(128, 2, 0, 640);
        due("8: square at the end", s.has(2064, 1064), true);
        due("8: square at the beginning", s.has(936, 936), true);
        due("8: square, beyond", s.has(2065, 1000), false);
        s.pen(128, 0, 0, 640);
        due("8: butt", s.has(2000, 1064), true);
        due("8: butt, beyond", s.has(2001, 1000), false);
        s.clear();
        s.move(1000, 1000);
        s.pen(128, 1, 0, 640);
        due("8: a move alone", s.has(1000, 1000), false);
        s.line(1000, 1000);
        due("8: a dot", s.has(1064, 1000), true);
        due("8: a dot counts", s.count(2), 1);
        s.dash(5);
        due("8: a dot with dashes", s.has(1064, 1000), true);
        s.pen(128, 2, 0, 640);
        due("8: no square dot", s.has(1000, 1000), false);
        due("8: it counts nevertheless", s.count(2), 1);
        s.pen(128, 0, 1, 640);
        due("8: no butt dot", s.count(3), 0);
    }

    private static void joins() {
        StrokeRaster s = lined(128, 0, 1000, 1000, 2000, 1000);
        s.line(2000, 2000);
        due("8: miter", s.has(2064, 936), true);
        due("8: miter, beyond", s.has(2065, 936), false);
        s.pen(128, 0, 0, 91);
        due("8: the ratio of a right angle is 90.5 / 64", s.has(2064, 936), true);
        s.pen(128, 0, 0, 90);
        due("8: limit", s.has(2064, 936), false);
        due("8: bevel by limit", s.has(2032, 968), true);
        s.pen(128, 0, 2, 640);
        due("8: bevel", s.has(2032, 968), true);
        due("8: bevel, beyond", s.has(2033, 967), false);
        s.pen(128, 0, 1, 640);
        due("8: round", s.has(2045, 955), true);
        due("8: round, beyond", s.has(2046, 954), false);
        StrokeRaster even = lined(64, 0, 1000, 0, 1000, 1000);
        even.line(134, 500);
        // offsets (512, 0) and (-256, 443), so that 128 is the limit itself
        even.pen(64, 0, 0, 128);
        due("8: just the limit", even.has(1030, 1045), true);
        even.pen(64, 0, 0, 127);
        due("8: beyond the limit", even.has(1030, 1045), false);
        StrokeRaster t = lined(128, 0, 1000, 1000, 2000, 1000);
        t.line(2000, 0);
        due("8: miter, to the right", t.has(2064, 1064), true);
        StrokeRaster u = lined(128, 0, 1000, 1000, 2000, 1000);
        u.line(1000, 1000);
        due("8: straight back has no miter", u.has(2001, 1000), false);
        u.pen(128, 0, 1, 640);
        due("8: but a round join", u.has(2064, 1000), true);
        StrokeRaster far = lined(64, 0, 0, 0, 8000, 10);
        far.line(0, 20);
        far.pen(64, 0, 0, 8192);
        due("8: no miter of 800 widths", far.has(8100, 10), false);
        far.clear();
        far.move(0, 0);
        far.line(4000, 50);
        far.line(0, 100);
        // the offsets are (6, -512) and (6, 512), so that m is 12 * 512^2 / 36
        due("8: a far miter", far.has(9461, 50), true);
        due("8: a far miter, beyond", far.has(9462, 50), false);
    }

    /** 3, 4 and 5 make whole offsets, so that the edges are exact. */
    private static void slanted() {
        StrokeRaster s = lined(10, 2, 0, 0, 300, 400);
        due("8: slanted, right edge", s.has(4, -3), true);
        due("8: slanted, left edge", s.has(-4, 3), true);
        due("8: slanted, beyond", s.has(-5, 4), false);
        due("8: slanted, square end", s.has(303, 404), true);
        due("8: slanted, corner", s.has(307, 401), true);
        due("8: slanted, other corner", s.has(299, 407), true);
        due("8: slanted, beyond the end", s.has(304, 405), false);
        due("8: slanted, square beginning", s.has(-3, -4), true);
        due("8: slanted, beyond the beginning", s.has(-4, -5), false);
    }

    private static void dashes() {
        StrokeRaster s = lined(64, 0, 0, 640, 1000, 640);
        due("9: first", s.dash(100), 1);
        due("9: on", s.has(100, 640), true);
        due("9: off", s.has(101, 640), false);
        due("9: off up to", s.has(199, 640), false);
        due("9: one dash, on and off", s.has(200, 640), true);
        due("9: five", s.count(2), 5);
        due("9: second", s.dash(0), 2);
        due("9: off 0", s.has(150, 640), true);
        due("9: ten", s.count(2), 10);
        due("9: third", s.dash(50), 3);
        // on 100, off 0, on 50, off 100, on 0, off 50
        due("9: three dashes, on", s.has(150, 640), true);
        due("9: three dashes, off", s.has(249, 640), false);
        due("9: three dashes, a piece without length", s.has(250, 640), false);
        s.pen(64, 2, 0, 640);
        due("9: with square caps", s.has(218, 640), true);
        due("9: not further", s.has(217, 640), false);
        refuses("9: too short", () -> s.dash(-1));
        refuses("9: too long", () -> s.dash(8193));
        for (int i = 4; i <= 8; i++) {
            due("9: more", s.dash(8192), i);
        }
        throwsIt("9: nine", STATE, () -> s.dash(1));
        throwsIt("9: the first one wins", ARGUMENT, () -> s.dash(-1));
        due("9: still eight", s.plain(0), 8);
        segmentsAndDashes();
        tooMany();
    }

    private static void segmentsAndDashes() {
        StrokeRaster s = lined(64, 0, 0, 640, 1000, 640);
        s.line(1000, 1640);
        s.dash(1000);
        due("9: used up at the corner", s.count(2), 1);
        due("9: no join", s.has(1032, 608), false);
        s.plain(500);
        s.dash(1000);
        s.dash(500);
        // on up to the first 500, off up to the corner, on for all of the second segment
        due("9: begins at the corner", s.count(2), 2);
        due("9: in the next segment", s.has(1032, 640), true);
        due("9: no cap", s.has(1000, 639), false);
        s.plain(0);
        s.dash(1500);
        due("9: round the corner", s.count(2), 2);
        due("9: a join", s.has(1032, 608), true);
        s.plain(0);
        s.dash(500);
        s.dash(500);
        s.dash(0);
        s.dash(8000);
        s.pen(64, 2, 0, 640);
        due("9: of 0 at the corner", s.count(2), 2);
        due("9: of 0 at the corner, of the segment before", s.has(1032, 672), true);
        s.plain(0);
        s.dash(0);
        s.dash(2000);
        due("9: of 0 at the end of all", s.count(2), 1);
        due("9: not at the beginning", s.has(0, 640), false);
        due("9: its square", s.has(968, 1608), true);
        due("9: its square, both ways", s.has(1032, 1672), true);
        due("9: its square, beyond", s.has(1000, 1673), false);
        s.close();
        s.plain(0);
        s.dash(8192);
        s.pen(64, 0, 0, 640);
        due("9: closed", s.count(2), 3);
        due("9: the chain is not", s.has(-70, 610), false);
        s.plain(7);
        s.dash(0);
        s.dash(0);
        due("9: all are 0", s.count(2), 3);
        due("9: all are 0, the chain is closed", s.has(-70, 610), true);
        StrokeRaster two = lined(64, 0, 0, 640, 150, 640);
        two.move(0, 1280);
        two.line(150, 1280);
        two.dash(100);
        due("9: each subpath anew", two.has(50, 1280), true);
        due("9: two", two.count(2), 2);
    }

    private static void tooMany() {
        StrokeRaster s = lined(64, 1, 0, 640, 3999, 640);
        s.dash(1);
        due("9: 2000 pieces", s.count(2), 2000);
        due("9: in it", s.has(2000, 640), true);
        s.move(0, 0);
        due("9: a move is none", s.count(2), 2000);
        s.close();
        due("9: a dot more", s.count(2), StrokeRaster.FULL);
        due("9: empty", s.has(2000, 640), false);
        due("9: no row", s.row(53), 0L);
        due("9: no share", s.share(5, 53), 0);
        due("9: no pixels", s.count(3), 0);
        s.plain(0);
        due("9: no longer", s.count(2), 2);
        due("9: in it again", s.has(2000, 640), true);
    }

    private static void plains() {
        StrokeRaster s = lined(64, 0, 0, 640, 1000, 640);
        s.dash(100);
        s.dash(50);
        refuses("10: too low", () -> s.plain(-1));
        refuses("10: too high", () -> s.plain(65536));
        due("10: a throw changes nothing", s.has(120, 640), false);
        due("10: two", s.plain(65535), 2);
        due("10: none left", s.plain(130), 0);
        due("10: plain", s.has(120, 640), true);
        s.dash(100);
        s.dash(50);
        // 130 are 100 on and 30 off: 20 off are left
        due("10: phase, off", s.has(19, 640), false);
        due("10: phase, on", s.has(20, 640), true);
        due("10: phase, off again", s.has(121, 640), false);
        s.plain(300);
        s.dash(100);
        // three times 100: off
        due("10: an odd number", s.has(99, 640), false);
        due("10: an odd number, on", s.has(100, 640), true);
        s.plain(0);
        s.dash(0);
        s.dash(100);
        due("10: a first one of 0 is passed over", s.count(2), 10);
        s.plain(65535);
        s.dash(1);
        due("10: the last phase, odd", s.has(0, 640), false);
        due("10: the last phase, on", s.has(1, 640), true);
    }

    private static void counts() {
        StrokeRaster s = lined(128, 0, 640, 640, 1920, 640);
        s.move(5, 5);
        s.line(5, 5);
        due("11: subpaths", s.count(0), 2);
        due("11: points", s.count(1), 4);
        due("11: pieces", s.count(2), 2);
        due("11: pixels", s.count(3), 40);
        int[] others = {-1, 4, Integer.MIN_VALUE, Integer.MAX_VALUE};
        for (int what : others) {
            due("11: another", s.count(what), StrokeRaster.NONE);
        }
        s.dash(8192);
        for (int i = 0; i < 5; i++) {
            s.dash(0);
        }
        s.pen(4096, 1, 1, 640);
        s.clear();
        s.move(2048, 2048);
        s.close();
        int inside = 0;
        for (int x = 0; x < 64; x++) {
            for (int y = 0; y < 64; y++) {
                int dx = 64 * x + 32 - 2048;
                int dy = 64 * y + 32 - 2048;
                inside += dx * dx + dy * dy <= 2048 * 2048 ? 1 : 0;
            }
        }
        due("11: a disc's pixels", s.count(3), inside);
    }

    private static void points() {
        StrokeRaster s = lined(4096, 2, 8191, 8191, 8190, 8191);
        due("12: beyond the coordinates", s.has(10239, 10239), true);
        due("12: beyond the stroke", s.has(10240, 8191), false);
        due("12: the last ones", s.has(16383, 16383), false);
        due("12: the first ones", s.has(-16384, -16384), false);
        int[][] out = {{16384, 0}, {-16385, 0}, {0, 16384}, {0, -16385}, {Integer.MAX_VALUE, Integer.MIN_VALUE}};
        for (int[] p : out) {
            throwsIt("12: out of bounds", ARGUMENT, () -> s.has(p[0], p[1]));
        }
    }

    private static void rows() {
        StrokeRaster s = lined(64, 0, 0, 4064, 4096, 4064);
        due("13: the uppermost", s.row(0), -1L);
        due("13: the next", s.row(1), 0L);
        s.clear();
        s.move(32, 0);
        s.line(32, 4096);
        due("13: the first pixel", s.row(63), 1L);
        s.move(4064, 0);
        s.line(4064, 64);
        due("13: the last pixel", s.row(63), Long.MIN_VALUE + 1);
        due("13: not above", s.row(62), 1L);
        s.count(3);
        due("13: behind a count", s.row(63), Long.MIN_VALUE + 1);
        s.pen(1, 0, 0, 640);
        due("13: a middle on the line", s.row(5), 1L);
        int[] out = {-1, 64, Integer.MIN_VALUE, Integer.MAX_VALUE};
        for (int r : out) {
            throwsIt("13: none such", INDEX, () -> s.row(r));
        }
    }

    private static void shares() {
        StrokeRaster s = lined(16, 0, 0, 40, 4096, 40);
        // 32 .. 48 holds one line of points, the one at 40
        due("14: a line of points", s.share(0, 63), 4);
        s.pen(32, 0, 0, 640);
        due("14: three lines of points", s.share(63, 63), 12);
        due("14: none above", s.share(63, 62), 0);
        s.pen(64, 0, 0, 640);
        due("14: the edge counts", s.share(20, 62), 4);
        s.pen(4096, 0, 0, 640);
        due("14: all", s.share(20, 40), 16);
        s.clear();
        s.move(64 * 9 + 24, 0);
        s.line(64 * 9 + 24, 4096);
        s.pen(1, 0, 0, 640);
        due("14: one column", s.share(9, 0), 4);
        due("14: not the next pixel", s.share(10, 0), 0);
        int[][] out = {{-1, 0}, {64, 0}, {0, -1}, {0, 64}, {Integer.MIN_VALUE, Integer.MAX_VALUE}};
        for (int[] p : out) {
            throwsIt("14: none such", INDEX, () -> s.share(p[0], p[1]));
        }
    }

    public static void main(String[] args) {
        newObject();
        moves();
        lines();
        controls();
        curves();
        closing();
        clearing();
        pens();
        dashes();
        plains();
        counts();
        points();
        rows();
        shares();
        System.out.println(asked + " asked, " + wrong + " wrong");
        if (wrong != 0) {
            System.exit(1);
        }
    }
}
