import java.util.Arrays;

/**
 * Strokes by definition: a path, a pen, and whether a point lies in what the pen leaves.
 *
 * The pieces of the stroke are made anew at the first question behind a change; the shapes round
 * them are never kept, but told to a grid of sample points one by one, so that an object stays small.
 */
public final class StrokeRaster {
    public static final int NONE = -1;
    public static final int FULL = -2;

    private static final int LOWEST = -8192;
    private static final int HIGHEST = 8191;
    private static final int FARTHEST = 16384;
    private static final int SIDE = 64;
    private static final int FINE = 16;
    private static final int FINE_PIXEL = 1024;
    private static final int FINE_MIDDLE = 512;
    private static final int SHARE_SIDE = 4;
    private static final int SHARE_STEP = 256;
    private static final int SHARE_START = 128;

    private static final int MOST_POINTS = 1024;
    private static final int MOST_SUBPATHS = 64;
    private static final int CURVE_POINTS = 16;
    private static final int MOST_DASHES = 8;
    private static final int LONGEST_DASH = 8192;
    private static final int LAST_PHASE = 65535;
    private static final int WIDEST = 4096;
    private static final int LEAST_LIMIT = 64;
    private static final int GREATEST_LIMIT = 8192;
    private static final int MOST_PIECES = 2000;
    private static final int FIRST_ROOM = 16;

    private static final int ROUND = 1;
    private static final int SQUARE = 2;
    private static final int MITER = 0;

    private final Path path;
    private final Pen tool;
    private final Pieces pieces;
    private final Walker walker;
    private final Grid grid;
    private final Painter painter;
    private final long[] picture;
    /** Bit r: row r of the picture is up to date. */
    private long known;
    private int firstControlX;
    private int firstControlY;
    private int secondControlX;
    private int secondControlY;

    public StrokeRaster() {
        path = new Path();
        tool = new Pen();
        pieces = new Pieces();
        walker = new Walker(path, tool, pieces);
        grid = new Grid();
        painter = new Painter(tool, pieces, grid);
        picture = new long[SIDE];
    }

    public int move(int x, int y) throws IllegalArgumentException, IllegalStateException {
        if (!isCoordinate(x) || !isCoordinate(y)) {
            throw new IllegalArgumentException("a coordinate is out of bounds");
        }
        if (path.subpaths >= MOST_SUBPATHS || path.points >= MOST_POINTS) {
            throw new IllegalStateException("the path is full");
        }
        path.begin(x, y);
        forget();
        return path.subpaths;
    }

    public int line(int x, int y) throws IllegalArgumentException, IllegalStateException {
        if (!isCoordinate(x) || !isCoordinate(y)) {
            throw new IllegalArgumentException("a coordinate is out of bounds");
        }
        if (!path.takes(1)) {
            throw new IllegalStateException("no open subpath, or too many points");
        }
        path.put(x, y);
        forget();
        return path.points;
    }

    public void control(int cx, int cy, int dx, int dy) throws IllegalArgumentException {
        if (!isCoordinate(cx) || !isCoordinate(cy) || !isCoordinate(dx) || !isCoordinate(dy)) {
            throw new IllegalArgumentException("a coordinate is out of bounds");
        }
        firstControlX = cx;
        firstControlY = cy;
        secondControlX = dx;
        secondControlY = dy;
    }

    public int curve(int x, int y) throws IllegalArgumentException, IllegalStateException {
        if (!isCoordinate(x) || !isCoordinate(y)) {
            throw new IllegalArgumentException("a coordinate is out of bounds");
        }
        if (!path.takes(CURVE_POINTS)) {
            throw new IllegalStateException("no open subpath, or too many points");
        }
        path.bend(firstControlX, firstControlY, secondControlX, secondControlY, x, y);
        forget();
        return path.points;
    }

    public int close() throws IllegalStateException {
        if (!path.isOpen()) {
            throw new IllegalStateException("no open subpath");
        }
        path.shutLast();
        forget();
        return path.shutOnes;
    }

    public int clear() {
        int gone = path.subpaths;
        path.drop();
        forget();
        return gone;
    }

    public void pen(int width, int caps, int joins, int limit) throws IllegalArgumentException {
        if (width < 1 || width > WIDEST || caps < 0 || caps > 2 || joins < 0 || joins > 2
                || limit < LEAST_LIMIT || limit > GREATEST_LIMIT) {
            throw new IllegalArgumentException("the pen is out of bounds");
        }
        tool.shape(width, caps, joins, limit);
        forget();
    }

    public int dash(int length) throws IllegalArgumentException, IllegalStateException {
        if (length < 0 || length > LONGEST_DASH) {
            throw new IllegalArgumentException("the dash is out of bounds");
        }
        if (tool.dashes >= MOST_DASHES) {
            throw new IllegalStateException("there are eight dashes");
        }
        tool.addDash(length);
        forget();
        return tool.dashes;
    }

    public int plain(int phase) throws IllegalArgumentException {
        if (phase < 0 || phase > LAST_PHASE) {
            throw new IllegalArgumentException("the phase is out of bounds");
        }
        int gone = tool.dashes;
        tool.dropDashes(phase);
        forget();
        return gone;
    }

    public int count(int what) {
        switch (what) {
            case 0:
                return path.subpaths;
            case 1:
                return path.points;
            case 2:
                walker.walk();
                return pieces.full ? FULL : pieces.held;
            case 3:
                walker.walk();
                paintPicture();
                return countSet();
            default:
                return NONE;
        }
    }

    public boolean has(int x, int y) throws IllegalArgumentException {
        if (x < -FARTHEST || x >= FARTHEST || y < -FARTHEST || y >= FARTHEST) {
            throw new IllegalArgumentException("a coordinate is out of bounds");
        }
        walker.walk();
        grid.across(FINE * x, 1, 1);
        grid.upwards(FINE * y, 1, 1);
        painter.paint();
        return grid.bits(0) != 0;
    }

    public long row(int r) throws IndexOutOfBoundsException {
        if (!isInPicture(r)) {
            throw new IndexOutOfBoundsException("no such row");
        }
        if ((known >>> r & 1L) == 0) {
            walker.walk();
            grid.across(FINE_MIDDLE, FINE_PIXEL, SIDE);
            grid.upwards(bottom(r) + FINE_MIDDLE, FINE_PIXEL, 1);
            painter.paint();
            picture[r] = grid.bits(0);
            known |= 1L << r;
        }
        return picture[r];
    }

    public int share(int x, int r) throws IndexOutOfBoundsException {
        if (!isInPicture(x) || !isInPicture(r)) {
            throw new IndexOutOfBoundsException("no such pixel");
        }
        walker.walk();
        grid.across(FINE_PIXEL * x + SHARE_START, SHARE_STEP, SHARE_SIDE);
        grid.upwards(bottom(r) + SHARE_START, SHARE_STEP, SHARE_SIDE);
        painter.paint();
        int points = 0;
        for (int j = 0; j < SHARE_SIDE; j++) {
            points += Long.bitCount(grid.bits(j));
        }
        return points;
    }

    private static boolean isCoordinate(int c) {
        return c >= LOWEST && c <= HIGHEST;
    }

    private static boolean isInPicture(int i) {
        return i >= 0 && i < SIDE;
    }

    private static int bottom(int r) {
        return FINE_PIXEL * (SIDE - 1 - r);
    }

    private void forget() {
        walker.forget();
        known = 0;
    }

    private int countSet() {
        int set = 0;
        for (int r = 0; r < SIDE; r++) {
            set += Long.bitCount(picture[r]);
        }
        return set;
    }

    private void paintPicture() {
        if (known == -1L) {
            return;
        }
        grid.across(FINE_MIDDLE, FINE_PIXEL, SIDE);
        grid.upwards(FINE_MIDDLE, FINE_PIXEL, SIDE);
        painter.paint();
        for (int r = 0; r < SIDE; r++) {
            picture[r] = grid.bits(SIDE - 1 - r);
        }
        known = -1L;
    }

    /** The greatest whole number whose square is at most n; n is below 2^48 wherever this is asked. */
    private static long root(long n) {
        long found = 0;
        for (long bit = 1L << 23; bit > 0; bit >>= 1) {
            long tried = found + bit;
            if (tried * tried <= n) {
                found = tried;
            }
        }
        return found;
    }

    /** The points as they were told; those that are left out are passed over by the walker. */
    private static final class Path {
        int[] xs = new int[FIRST_ROOM];
        int[] ys = new int[FIRST_ROOM];
        int points;
        final int[] firsts = new int[MOST_SUBPATHS];
        final boolean[] shut = new boolean[MOST_SUBPATHS];
        int subpaths;
        int shutOnes;

        void begin(int x, int y) {
            if (subpaths >= MOST_SUBPATHS) {
                return;
            }
            firsts[subpaths] = points;
            shut[subpaths] = false;
            subpaths++;
            put(x, y);
        }

        void put(int x, int y) {
            if (points >= MOST_POINTS) {
                return;
            }
            if (points >= xs.length) {
                int room = Math.min(MOST_POINTS, 2 * xs.length);
                xs = Arrays.copyOf(xs, room);
                ys = Arrays.copyOf(ys, room);
            }
            xs[points] = x;
            ys[points] = y;
            points++;
        }

        void bend(int cx, int cy, int dx, int dy, int x, int y) {
            if (points < 1) {
                return;
            }
            int px = xs[points - 1];
            int py = ys[points - 1];
            for (int k = 1; k <= CURVE_POINTS; k++) {
                put(between(px, cx, dx, x, k), between(py, cy, dy, y, k));
            }
        }

        private static int between(int p, int c, int d, int q, int k) {
            int m = CURVE_POINTS - k;
            int sum = p * m * m * m + 3 * c * k * m * m + 3 * d * k * k * m + q * k * k * k;
            return Math.floorDiv(sum + 2048, 4096);
        }

        boolean isOpen() {
            return subpaths > 0 && !shut[subpaths - 1];
        }

        boolean takes(int more) {
            return isOpen() && points + more <= MOST_POINTS;
        }

        void shutLast() {
            if (isOpen()) {
                shut[subpaths - 1] = true;
                shutOnes++;
            }
        }

        void drop() {
            points = 0;
            subpaths = 0;
            shutOnes = 0;
        }

        /** Where the points of subpath s end: the index behind its last one. */
        int behind(int s) {
            return s + 1 < subpaths ? firsts[s + 1] : points;
        }
    }

    private static final class Pen {
        int half = 512;
        int caps;
        int joins;
        int limit = 640;
        final int[] lengths = new int[MOST_DASHES];
        int dashes;
        int phase;
        int wholeLength;

        void shape(int width, int caps, int joins, int limit) {
            this.half = 8 * width;
            this.caps = caps;
            this.joins = joins;
            this.limit = limit;
        }

        void addDash(int length) {
            if (dashes < MOST_DASHES) {
                lengths[dashes] = length;
                dashes++;
                wholeLength += length;
            }
        }

        void dropDashes(int phase) {
            this.phase = phase;
            dashes = 0;
            wholeLength = 0;
        }

        boolean isDashed() {
            return wholeLength > 0;
        }
    }

    /** The pieces of the stroke in fine coordinates, in rows that only ever grow. */
    private static final class Pieces {
        static final int GOES_ON = 0;
        static final int ENDS = 1;
        static final int DOT = 2;

        int[] ax = new int[FIRST_ROOM];
        int[] ay = new int[FIRST_ROOM];
        int[] bx = new int[FIRST_ROOM];
        int[] by = new int[FIRST_ROOM];
        int[] ox = new int[FIRST_ROOM];
        int[] oy = new int[FIRST_ROOM];
        /** The piece before this one in its chain; NONE where a chain begins. */
        int[] before = new int[FIRST_ROOM];
        /** Whether the chain goes on behind this piece or ends with it, or this is a dot. */
        int[] kind = new int[FIRST_ROOM];
        int held;
        boolean full;
        /** The last piece of the chain that goes on; NONE if the next piece begins one. */
        private int last = NONE;

        void drop() {
            held = 0;
            full = false;
            last = NONE;
        }

        /** One piece too many empties the stroke, and nothing more is taken until it is made anew. */
        void add(int fromX, int fromY, int toX, int toY, int offsetX, int offsetY) {
            if (full || held >= MOST_PIECES) {
                full = true;
                held = 0;
                last = NONE;
                return;
            }
            if (held >= ax.length) {
                grow(Math.min(MOST_PIECES, 2 * ax.length));
            }
            ax[held] = fromX;
            ay[held] = fromY;
            bx[held] = toX;
            by[held] = toY;
            ox[held] = offsetX;
            oy[held] = offsetY;
            before[held] = last;
            kind[held] = GOES_ON;
            last = held;
            held++;
        }

        void addDot(int x, int y) {
            add(x, y, x, y, 0, 0);
            endChain(DOT);
        }

        void endChain(int asKind) {
            if (last >= 0) {
                kind[last] = asKind;
                last = NONE;
            }
        }

        void closeChain(int first) {
            if (last >= 0 && first >= 0 && first <= last) {
                before[first] = last;
                last = NONE;
            }
        }

        private void grow(int room) {
            ax = Arrays.copyOf(ax, room);
            ay = Arrays.copyOf(ay, room);
            bx = Arrays.copyOf(bx, room);
            by = Arrays.copyOf(by, room);
            ox = Arrays.copyOf(ox, room);
            oy = Arrays.copyOf(oy, room);
            before = Arrays.copyOf(before, room);
            kind = Arrays.copyOf(kind, room);
        }
    }

    /** Goes along the path and cuts it into pieces. */
    private static final class Walker {
        private static final int PARTS = 256;
        /** Far above what one segment of 23,170 units can need, eight dashes being one unit at least. */
        private static final int MOST_STEPS = 1000000;

        private final Path path;
        private final Pen pen;
        private final Pieces pieces;
        private boolean fresh;

        private int startDash;
        private boolean startOn;
        private int startRest;

        private int dash;
        private boolean on;
        private int rest;

        private int fromX;
        private int fromY;
        private int alongX;
        private int alongY;
        private int offsetX;
        private int offsetY;
        private int length;

        Walker(Path path, Pen pen, Pieces pieces) {
            this.path = path;
            this.pen = pen;
            this.pieces = pieces;
        }

        void forget() {
            fresh = false;
        }

        void walk() {
            if (fresh) {
                return;
            }
            pieces.drop();
            passPhase();
            for (int s = 0; s < path.subpaths && !pieces.full; s++) {
                walkSubpath(s);
            }
            fresh = true;
        }

        /** Two rounds bring back the same dash in the same turn, ON or OFF, so they may be left away. */
        private void passPhase() {
            startDash = 0;
            startOn = true;
            if (pen.wholeLength <= 0) {
                return;
            }
            int left = Math.floorMod(pen.phase, 2 * pen.wholeLength);
            for (int step = 0; step < 2 * MOST_DASHES && left >= pen.lengths[startDash]; step++) {
                left -= pen.lengths[startDash];
                startDash = dashAfter(startDash);
                startOn = !startOn;
            }
            startRest = PARTS * (pen.lengths[startDash] - left);
        }

        private int dashAfter(int i) {
            return i + 1 < pen.dashes ? i + 1 : 0;
        }

        private void walkSubpath(int s) {
            int first = path.firsts[s];
            int behind = path.behind(s);
            boolean shut = path.shut[s];
            int begun = pieces.held;
            int last = shut ? behind : behind - 1;
            boolean dashed = pen.isDashed();
            boolean moved = false;
            dash = startDash;
            on = startOn;
            rest = startRest;
            for (int i = first + 1; i <= last && !pieces.full; i++) {
                if (takeSegment(i - 1, i < behind ? i : first)) {
                    moved = true;
                    if (dashed) {
                        cutSegment();
                    } else {
                        addPiece(0, length);
                    }
                }
            }
            if (!moved && (shut || behind - first > 1)) {
                pieces.addDot(FINE * path.xs[first], FINE * path.ys[first]);
            }
            if (shut && !dashed) {
                pieces.closeChain(begun);
            }
            pieces.endChain(Pieces.ENDS);
        }

        /** Whether there is a segment to take: from a point that is left out there is none. */
        private boolean takeSegment(int i, int j) {
            fromX = path.xs[i];
            fromY = path.ys[i];
            alongX = path.xs[j] - fromX;
            alongY = path.ys[j] - fromY;
            if (alongX == 0 && alongY == 0) {
                return false;
            }
            long square = (long) alongX * alongX + (long) alongY * alongY;
            offsetX = offsetPart(alongY, square);
            offsetY = -offsetPart(alongX, square);
            length = (int) root(PARTS * PARTS * square);
            return true;
        }

        /** (2 k - 1)^2 is whole, so that the quotient may be rounded down before its root is taken. */
        private int offsetPart(int along, long square) {
            if (square <= 0) {
                return 0;
            }
            long twice = 2L * pen.half * along;
            int k = (int) ((root(twice * twice / square) + 1) / 2);
            return along < 0 ? -k : k;
        }

        /** A dash of 0 that begins at the segment's end is still this segment's; a longer one is not. */
        private void cutSegment() {
            int t = 0;
            for (int step = 0; step < MOST_STEPS && (t < length || rest <= 0) && !pieces.full; step++) {
                int stop = Math.min(length, t + rest);
                if (on) {
                    addPiece(t, stop);
                }
                rest -= stop - t;
                t = stop;
                if (rest <= 0) {
                    pieces.endChain(Pieces.ENDS);
                    dash = dashAfter(dash);
                    on = !on;
                    rest = PARTS * pen.lengths[dash];
                }
            }
        }

        private void addPiece(int t, int stop) {
            pieces.add(fineAt(fromX, alongX, t), fineAt(fromY, alongY, t),
                    fineAt(fromX, alongX, stop), fineAt(fromY, alongY, stop), offsetX, offsetY);
        }

        private int fineAt(int from, int along, int t) {
            if (length <= 0) {
                return FINE * from;
            }
            return FINE * from + (int) Math.floorDiv(2L * FINE * along * t + length, 2L * length);
        }
    }

    /** Tells the grid every shape of the stroke. */
    private static final class Painter {
        private final Pen pen;
        private final Pieces pieces;
        private final Grid grid;

        Painter(Pen pen, Pieces pieces, Grid grid) {
            this.pen = pen;
            this.pieces = pieces;
            this.grid = grid;
        }

        void paint() {
            for (int i = 0; i < pieces.held && !grid.isFilled(); i++) {
                if (isNear(i)) {
                    paintBody(i);
                    paintCaps(i);
                    paintJoin(i);
                }
                if (pen.joins == MITER) {
                    paintMiter(i);
                }
            }
        }

        /**
         * Bodies, caps and joins but miters reach no further than H twice in each coordinate. No body is
         * without area (it would hold an endless line): a piece shorter than a unit begins or ends at a
         * point of the path, and rounding moves its other end along the greater difference first.
         */
        private boolean isNear(int i) {
            int reach = 2 * pen.half;
            return grid.meets(Math.min(pieces.ax[i], pieces.bx[i]) - reach,
                    Math.max(pieces.ax[i], pieces.bx[i]) + reach,
                    Math.min(pieces.ay[i], pieces.by[i]) - reach,
                    Math.max(pieces.ay[i], pieces.by[i]) + reach);
        }

        private void paintBody(int i) {
            int dx = pieces.bx[i] - pieces.ax[i];
            int dy = pieces.by[i] - pieces.ay[i];
            int ox = pieces.ox[i];
            int oy = pieces.oy[i];
            if (dx == 0 && dy == 0) {
                return;
            }
            grid.from(pieces.ax[i], pieces.ay[i]);
            grid.corner(ox, oy);
            grid.corner(dx + ox, dy + oy);
            grid.corner(dx - ox, dy - oy);
            grid.corner(-ox, -oy);
            grid.polygon();
        }

        private void paintCaps(int i) {
            if (pieces.before[i] < 0) {
                paintCap(pieces.ax[i], pieces.ay[i], i, -1);
            }
            if (pieces.kind[i] == Pieces.ENDS) {
                paintCap(pieces.bx[i], pieces.by[i], i, 1);
            }
        }

        private void paintCap(int x, int y, int i, int way) {
            if (pen.caps == ROUND) {
                grid.disc(x, y, pen.half);
            } else if (pen.caps == SQUARE && pieces.kind[i] != Pieces.DOT) {
                int ox = pieces.ox[i];
                int oy = pieces.oy[i];
                int fx = -oy * way;
                int fy = ox * way;
                grid.from(x, y);
                grid.corner(ox, oy);
                grid.corner(ox + fx, oy + fy);
                grid.corner(fx - ox, fy - oy);
                grid.corner(-ox, -oy);
                grid.polygon();
            }
        }

        private void paintJoin(int i) {
            int before = pieces.before[i];
            if (before < 0) {
                return;
            }
            if (pen.joins == ROUND) {
                grid.disc(pieces.ax[i], pieces.ay[i], pen.half);
                return;
            }
            int sign = turnSign(before, i);
            if (sign != 0) {
                grid.from(pieces.ax[i], pieces.ay[i]);
                grid.corner(0, 0);
                grid.corner(sign * pieces.ox[before], sign * pieces.oy[before]);
                grid.corner(sign * pieces.ox[i], sign * pieces.oy[i]);
                grid.polygon();
            }
        }

        private int turnSign(int before, int i) {
            long turn = (long) pieces.ox[before] * pieces.oy[i] - (long) pieces.oy[before] * pieces.ox[i];
            return Long.signum(turn);
        }

        /** A miter may reach far, so it is told to the grid from pieces that are not near, too. */
        private void paintMiter(int i) {
            int before = pieces.before[i];
            if (before < 0) {
                return;
            }
            int sign = turnSign(before, i);
            int ox = sign * pieces.ox[before];
            int oy = sign * pieces.oy[before];
            int px = sign * pieces.ox[i];
            int py = sign * pieces.oy[i];
            long square = (long) pen.half * pen.half;
            long part = square + (long) ox * px + (long) oy * py;
            if (sign == 0 || part <= 0 || 8192 * square > (long) pen.limit * pen.limit * part) {
                return;
            }
            grid.from(pieces.ax[i], pieces.ay[i]);
            grid.corner(0, 0);
            grid.corner(ox, oy);
            grid.corner(Math.floorDiv((ox + px) * square, part), Math.floorDiv((oy + py) * square, part));
            grid.corner(px, py);
            grid.polygon();
        }
    }

    /** Points in rows and columns, and which of them a shape has covered so far. */
    private static final class Grid {
        private static final int MOST_CORNERS = 4;

        private final long[] rows = new long[SIDE];
        private int startX;
        private int stepX = 1;
        private int wide = 1;
        private int startY;
        private int stepY = 1;
        private int high = 1;
        private long wholeRow = 1;
        private int filledRows;

        private final long[] xs = new long[MOST_CORNERS];
        private final long[] ys = new long[MOST_CORNERS];
        private int corners;
        private int originX;
        private int originY;
        private long turn;

        void across(int start, int step, int columns) {
            startX = start;
            stepX = Math.max(1, step);
            wide = Math.max(1, Math.min(SIDE, columns));
            wholeRow = bitsFromTo(0, wide - 1);
        }

        void upwards(int start, int step, int lines) {
            startY = start;
            stepY = Math.max(1, step);
            high = Math.max(1, Math.min(SIDE, lines));
            filledRows = 0;
            Arrays.fill(rows, 0L);
        }

        long bits(int j) {
            return j >= 0 && j < high ? rows[j] : 0;
        }

        boolean isFilled() {
            for (int j = filledRows; j < high && rows[j] == wholeRow; j++) {
                filledRows = j + 1;
            }
            return filledRows >= high;
        }

        boolean meets(long lowX, long highX, long lowY, long highY) {
            return highX >= startX && lowX <= startX + (wide - 1) * stepX
                    && highY >= startY && lowY <= startY + (high - 1) * stepY;
        }

        void from(int x, int y) {
            originX = x;
            originY = y;
            corners = 0;
        }

        void corner(long dx, long dy) {
            if (corners < MOST_CORNERS) {
                xs[corners] = originX + dx;
                ys[corners] = originY + dy;
                corners++;
            }
        }

        /**
         * What a point has to the left of the sides adds up to the area twice, whatever the point: so
         * the sign of the area tells which of the two signs is asked for, and only a polygon without
         * area can have points beyond its corners.
         */
        void polygon() {
            long area = doubledArea();
            turn = area < 0 ? -1 : 1;
            int first = 0;
            int last = high - 1;
            if (area != 0) {
                first = firstRow(least(ys));
                last = lastRow(greatest(ys));
                if (greatest(xs) < startX || least(xs) > startX + (wide - 1) * stepX) {
                    return;
                }
            }
            for (int j = first; j <= last; j++) {
                if (rows[j] != wholeRow) {
                    rows[j] |= polygonBits(startY + j * stepY);
                }
            }
        }

        private long least(long[] row) {
            long found = row[0];
            for (int i = 1; i < corners; i++) {
                found = Math.min(found, row[i]);
            }
            return found;
        }

        private long greatest(long[] row) {
            long found = row[0];
            for (int i = 1; i < corners; i++) {
                found = Math.max(found, row[i]);
            }
            return found;
        }

        private long doubledArea() {
            long area = 0;
            for (int i = 0; i < corners; i++) {
                int j = i + 1 < corners ? i + 1 : 0;
                area += xs[i] * ys[j] - ys[i] * xs[j];
            }
            return area;
        }

        /** Each side leaves the columns k for which at + k * more is not below 0. */
        private long polygonBits(long y) {
            long first = 0;
            long last = wide - 1;
            for (int i = 0; i < corners && first <= last; i++) {
                int j = i + 1 < corners ? i + 1 : 0;
                long dx = xs[j] - xs[i];
                long dy = ys[j] - ys[i];
                long at = turn * (dx * (y - ys[i]) - dy * (startX - xs[i]));
                long more = -turn * dy * stepX;
                if (more > 0) {
                    first = Math.max(first, -Math.floorDiv(at, more));
                } else if (more < 0) {
                    last = Math.min(last, Math.floorDiv(at, -more));
                } else if (at < 0) {
                    return 0;
                }
            }
            return bitsFromTo(first, last);
        }

        void disc(int x, int y, int radius) {
            if (!meets((long) x - radius, (long) x + radius, (long) y - radius, (long) y + radius)) {
                return;
            }
            int last = lastRow((long) y + radius);
            for (int j = firstRow((long) y - radius); j <= last; j++) {
                if (rows[j] != wholeRow) {
                    rows[j] |= discBits(x, startY + j * stepY - y, radius);
                }
            }
        }

        private long discBits(int x, long away, long radius) {
            long left = radius * radius - away * away;
            if (left < 0 || stepX <= 0) {
                return 0;
            }
            long reach = root(left);
            long first = -Math.floorDiv(startX - x + reach, (long) stepX);
            long last = Math.floorDiv(x + reach - startX, (long) stepX);
            return bitsFromTo(Math.max(0, first), Math.min(wide - 1, last));
        }

        private int firstRow(long lowY) {
            if (stepY <= 0) {
                return 0;
            }
            return (int) Math.max(0, -Math.floorDiv(startY - lowY, (long) stepY));
        }

        private int lastRow(long highY) {
            if (stepY <= 0) {
                return NONE;
            }
            return (int) Math.min(high - 1, Math.floorDiv(highY - startY, (long) stepY));
        }

        private static long bitsFromTo(long first, long last) {
            return first <= last ? -1L << first & -1L >>> (SIDE - 1 - last) : 0;
        }
    }
}
