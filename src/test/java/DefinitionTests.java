import java.math.BigInteger;
import java.util.ArrayList;
import java.util.List;
import java.util.Random;

/**
 * The class against the document's definitions, written down a second time without any thought of speed:
 * every shape of the stroke is made, and every point is tried against every shape. Runs of calls come
 * from fixed seeds.
 */
public final class DefinitionTests {
    /** An object is good for 512 calls, and one turn makes a dozen at most. */
    private static final int LAST_CALL = 500;

    private static int wrong = 0;

    interface Shape {
        boolean holds(long x, long y);
    }

    static final class Polygon implements Shape {
        final long[][] corners;

        Polygon(long[]... corners) {
            this.corners = corners;
        }

        public boolean holds(long x, long y) {
            boolean left = true;
            boolean right = true;
            for (int i = 0; i < corners.length; i++) {
                long[] p = corners[i];
                long[] q = corners[(i + 1) % corners.length];
                long cross = (q[0] - p[0]) * (y - p[1]) - (q[1] - p[1]) * (x - p[0]);
                left &= cross >= 0;
                right &= cross <= 0;
            }
            return left || right;
        }
    }

    static final class Disc implements Shape {
        final long[] middle;
        final long radius;

        Disc(long[] middle, long radius) {
            this.middle = middle;
            this.radius = radius;
        }

        public boolean holds(long x, long y) {
            long dx = x - middle[0];
            long dy = y - middle[1];
            return dx * dx + dy * dy <= radius * radius;
        }
    }

    static final class Piece {
        final long[] from;
        final long[] to;
        final long[] offset;

        Piece(long[] from, long[] to, long[] offset) {
            this.from = from;
            this.to = to;
            this.offset = offset;
        }
    }

    static final class Chain {
        final List<Piece> pieces = new ArrayList<>();
        boolean closed;
    }

    static final class Subpath {
        final List<long[]> points = new ArrayList<>();
        boolean closed;
    }

    static final class Definition {
        final List<Subpath> subpaths = new ArrayList<>();
        long[] c = {0, 0};
        long[] d = {0, 0};
        int width = 64;
        int caps = 0;
        int joins = 0;
        int limit = 640;
        int phase = 0;
        final List<Integer> dashes = new ArrayList<>();
        List<Shape> shapes;
        int pieceCount;

        long h() {
            return 8L * width;
        }

        int points() {
            int sum = 0;
            for (Subpath s : subpaths) {
                sum += s.points.size();
            }
            return sum;
        }

        int closed() {
            int sum = 0;
            for (Subpath s : subpaths) {
                sum += s.closed ? 1 : 0;
            }
            return sum;
        }

        Subpath last() {
            return subpaths.isEmpty() ? null : subpaths.get(subpaths.size() - 1);
        }

        void bend(long x, long y) {
            long[] p = last().points.get(last().points.size() - 1);
            long[] q = {x, y};
            for (long k = 1; k <= 16; k++) {
                long[] at = new long[2];
                for (int i = 0; i < 2; i++) {
                    long m = 16 - k;
                    at[i] = Math.floorDiv(
                            p[i] * m * m * m + 3 * c[i] * k * m * m + 3 * d[i] * k * k * m + q[i] * k * k * k + 2048,
                            4096L);
                }
                last().points.add(at);
            }
        }

        static List<long[]> left(Subpath s) {
            List<long[]> kept = new ArrayList<>();
            for (long[] p : s.points) {
                if (kept.isEmpty() || !same(kept.get(kept.size() - 1), p)) {
                    kept.add(p);
                }
            }
            if (s.closed && kept.size() > 1 && same(kept.get(0), kept.get(kept.size() - 1))) {
                kept.remove(kept.size() - 1);
            }
            return kept;
        }

        static boolean same(long[] p, long[] q) {
            return p[0] == q[0] && p[1] == q[1];
        }

        long[] offset(long dx, long dy) {
            long u = size(dy, dx * dx + dy * dy);
            long v = size(dx, dx * dx + dy * dy);
            return new long[] {dy < 0 ? -u : u, dx < 0 ? v : -v};
        }

        long size(long along, long square) {
            BigInteger most = BigInteger.valueOf(2 * h() * along).pow(2);
            long k = (long) (h() * Math.abs(along) / Math.sqrt(square)) + 3;
            while (k > 0 && BigInteger.valueOf(2 * k - 1).pow(2).multiply(BigInteger.valueOf(square)).compareTo(most) > 0) {
                k--;
            }
            return k;
        }

        void define() {
            shapes = new ArrayList<>();
            pieceCount = 0;
            List<Chain> chains = new ArrayList<>();
            List<long[]> dots = new ArrayList<>();
            boolean dashed = false;
            for (int dash : dashes) {
                dashed |= dash > 0;
            }
            for (Subpath s : subpaths) {
                List<long[]> kept = left(s);
                if (kept.size() == 1) {
                    if (s.closed || s.points.size() > 1) {
                        dots.add(new long[] {16 * kept.get(0)[0], 16 * kept.get(0)[1]});
                    }
                } else {
                    if (s.closed) {
                        kept.add(kept.get(0));
                    }
                    if (dashed) {
                        chains.addAll(cut(kept));
                    } else {
                        chains.add(whole(kept, s.closed));
                    }
                }
            }
            pieceCount = dots.size();
            for (Chain chain : chains) {
                pieceCount += chain.pieces.size();
            }
            if (pieceCount > 2000) {
                return;
            }
            for (long[] dot : dots) {
                if (caps == 1) {
                    shapes.add(new Disc(dot, h()));
                }
            }
            for (Chain chain : chains) {
                addChain(chain);
            }
        }

        Chain whole(List<long[]> kept, boolean closed) {
            Chain chain = new Chain();
            chain.closed = closed;
            for (int i = 0; i + 1 < kept.size(); i++) {
                long[] p = kept.get(i);
                long[] q = kept.get(i + 1);
                chain.pieces.add(new Piece(new long[] {16 * p[0], 16 * p[1]}, new long[] {16 * q[0], 16 * q[1]},
                        offset(q[0] - p[0], q[1] - p[1])));
            }
            return chain;
        }

        /** By where the dashes begin and end along the whole subpath, not segment by segment. */
        List<Chain> cut(List<long[]> kept) {
            int n = kept.size() - 1;
            long[] ends = new long[n + 1];
            for (int i = 0; i < n; i++) {
                long dx = kept.get(i + 1)[0] - kept.get(i)[0];
                long dy = kept.get(i + 1)[1] - kept.get(i)[1];
                ends[i + 1] = ends[i] + BigInteger.valueOf(65536 * (dx * dx + dy * dy)).sqrt().longValueExact();
            }
            int turn = 0;
            long left = phase;
            while (left >= dashes.get(turn % dashes.size())) {
                left -= dashes.get(turn % dashes.size());
                turn++;
            }
            List<Chain> chains = new ArrayList<>();
            long begin = 0;
            long end = 256 * (dashes.get(turn % dashes.size()) - left);
            int made = 0;
            while (begin <= ends[n] && made <= 2000) {
                if (turn % 2 == 0) {
                    Chain chain = new Chain();
                    for (int i = 0; i < n; i++) {
                        long a = Math.max(begin, ends[i]);
                        long b = Math.min(end, ends[i + 1]);
                        boolean inside = begin == end ? ends[i] < begin && begin <= ends[i + 1] : a < b;
                        if (inside) {
                            chain.pieces.add(part(kept.get(i), kept.get(i + 1), a - ends[i], b - ends[i], ends[i + 1] - ends[i]));
                            made++;
                        }
                    }
                    if (!chain.pieces.isEmpty()) {
                        chains.add(chain);
                    }
                }
                turn++;
                begin = end;
                end = begin + 256L * dashes.get(turn % dashes.size());
            }
            return chains;
        }

        Piece part(long[] p, long[] q, long t, long u, long l) {
            return new Piece(fine(p, q, t, l), fine(p, q, u, l), offset(q[0] - p[0], q[1] - p[1]));
        }

        static long[] fine(long[] p, long[] q, long t, long l) {
            return new long[] {16 * p[0] + Math.floorDiv(32 * (q[0] - p[0]) * t + l, 2 * l),
                16 * p[1] + Math.floorDiv(32 * (q[1] - p[1]) * t + l, 2 * l)};
        }

        static long[] plus(long[] p, long a, long[] o, long b, long[] f) {
            return new long[] {p[0] + a * o[0] + b * f[0], p[1] + a * o[1] + b * f[1]};
        }

        void addChain(Chain chain) {
            int n = chain.pieces.size();
            for (Piece piece : chain.pieces) {
                if (!same(piece.from, piece.to)) {
                    long[] o = piece.offset;
                    shapes.add(new Polygon(plus(piece.from, 1, o, 0, o), plus(piece.to, 1, o, 0, o),
                            plus(piece.to, -1, o, 0, o), plus(piece.from, -1, o, 0, o)));
                }
            }
            if (!chain.closed) {
                addCap(chain.pieces.get(0).from, chain.pieces.get(0).offset, -1);
                addCap(chain.pieces.get(n - 1).to, chain.pieces.get(n - 1).offset, 1);
            }
            for (int i = chain.closed ? 0 : 1; i < n; i++) {
                addJoin(chain.pieces.get(i).from, chain.pieces.get((i + n - 1) % n).offset, chain.pieces.get(i).offset);
            }
        }

        void addCap(long[] e, long[] o, int way) {
            long[] f = {-o[1], o[0]};
            if (caps == 1) {
                shapes.add(new Disc(e, h()));
            } else if (caps == 2) {
                shapes.add(new Polygon(plus(e, 1, o, 0, f), plus(e, 1, o, way, f), plus(e, -1, o, way, f), plus(e, -1, o, 0, f)));
            }
        }

        void addJoin(long[] v, long[] before, long[] behind) {
            if (joins == 1) {
                shapes.add(new Disc(v, h()));
                return;
            }
            long s = before[0] * behind[1] - before[1] * behind[0];
            if (s == 0) {
                return;
            }
            long sign = s < 0 ? -1 : 1;
            long[] o = {sign * before[0], sign * before[1]};
            long[] p = {sign * behind[0], sign * behind[1]};
            shapes.add(new Polygon(v, plus(v, 1, o, 0, p), plus(v, 1, p, 0, o)));
            long part = h() * h() + o[0] * p[0] + o[1] * p[1];
            if (joins == 0 && 8192 * h() * h() <= (long) limit * limit * part) {
                long[] m = {Math.floorDiv((o[0] + p[0]) * h() * h(), part), Math.floorDiv((o[1] + p[1]) * h() * h(), part)};
                shapes.add(new Polygon(v, plus(v, 1, o, 0, p), plus(v, 1, m, 0, o), plus(v, 1, p, 0, o)));
            }
        }

        boolean in(long x, long y) {
            for (Shape shape : shapes) {
                if (shape.holds(16 * x, 16 * y)) {
                    return true;
                }
            }
            return false;
        }

        long pixels(int r) {
            long bits = 0;
            for (int x = 0; x < 64; x++) {
                if (in(64 * x + 32, 64 * (63 - r) + 32)) {
                    bits |= 1L << x;
                }
            }
            return bits;
        }

        int part(int x, int r) {
            int sum = 0;
            for (int i = 0; i < 4; i++) {
                for (int j = 0; j < 4; j++) {
                    sum += in(64 * x + 8 + 16 * i, 64 * (63 - r) + 8 + 16 * j) ? 1 : 0;
                }
            }
            return sum;
        }
    }

    /** One object, its definition, and the calls made so far, to be told if an answer is wrong. */
    static final class Run {
        final Random random;
        final StrokeRaster made = new StrokeRaster();
        final Definition due = new Definition();
        final StringBuilder told = new StringBuilder();
        final int size;
        final int middle;
        boolean stale = true;
        int calls = 0;

        Run(long seed) {
            random = new Random(seed);
            int[] sizes = {3, 20, 100, 1000, 4000, 8191};
            size = sizes[random.nextInt(sizes.length)];
            middle = size > 4000 ? 0 : random.nextInt(4096);
        }

        static int clamp(int c) {
            return Math.max(-8192, Math.min(8191, c));
        }

        int coordinate() {
            if (random.nextInt(60) == 0) {
                int[] edges = {-8193, 8192, -8192, 8191};
                return edges[random.nextInt(edges.length)];
            }
            return clamp(middle + random.nextInt(2 * size + 1) - size);
        }

        static boolean outside(int... cs) {
            for (int c : cs) {
                if (c < -8192 || c > 8191) {
                    return true;
                }
            }
            return false;
        }

        void check(String call, Object got, Object want) {
            calls++;
            told.append(call).append(" = ").append(got).append('\n');
            if (!got.equals(want)) {
                wrong++;
                if (wrong < 4) {
                    System.out.println(told + "  but due is " + want);
                }
            }
        }

        interface Call {
            Object answer();
        }

        static Object answerOf(Call call) {
            try {
                return call.answer();
            } catch (RuntimeException e) {
                return e.getClass().getSimpleName();
            }
        }

        void define() {
            if (stale) {
                due.define();
                stale = false;
            }
        }

        void change() {
            stale = true;
            switch (random.nextInt(12)) {
                case 0:
                case 1:
                    move(coordinate(), coordinate());
                    break;
                case 2:
                    curve();
                    break;
                case 3:
                    close();
                    break;
                case 4:
                    pen();
                    break;
                case 5:
                    dash();
                    break;
                case 6:
                    plain();
                    break;
                case 7:
                    if (random.nextInt(6) == 0) {
                        int gone = due.subpaths.size();
                        due.subpaths.clear();
                        check("clear()", made.clear(), gone);
                    }
                    break;
                default:
                    line();
            }
        }

        void move(int x, int y) {
            Object want;
            if (outside(x, y)) {
                want = "IllegalArgumentException";
            } else if (due.subpaths.size() == 64 || due.points() == 1024) {
                want = "IllegalStateException";
            } else {
                Subpath s = new Subpath();
                s.points.add(new long[] {x, y});
                due.subpaths.add(s);
                want = due.subpaths.size();
            }
            check("move(" + x + ", " + y + ")", answerOf(() -> made.move(x, y)), want);
        }

        boolean refuses(int more) {
            return due.last() == null || due.last().closed || due.points() + more > 1024;
        }

        void line() {
            boolean stay = due.last() != null && random.nextInt(8) == 0;
            int at = stay ? random.nextInt(2) * (due.last().points.size() - 1) : 0;
            int x = stay ? (int) due.last().points.get(at)[0] : coordinate();
            int y = stay ? (int) due.last().points.get(at)[1] : coordinate();
            Object want;
            if (outside(x, y)) {
                want = "IllegalArgumentException";
            } else if (refuses(1)) {
                want = "IllegalStateException";
            } else {
                due.last().points.add(new long[] {x, y});
                want = due.points();
            }
            check("line(" + x + ", " + y + ")", answerOf(() -> made.line(x, y)), want);
        }

        void curve() {
            if (random.nextInt(3) > 0) {
                int[] c = {coordinate(), coordinate(), coordinate(), coordinate()};
                Object want = "IllegalArgumentException";
                if (!outside(c)) {
                    due.c = new long[] {c[0], c[1]};
                    due.d = new long[] {c[2], c[3]};
                    want = "nothing";
                }
                check("control(" + c[0] + ", " + c[1] + ", " + c[2] + ", " + c[3] + ")", answerOf(() -> {
                    made.control(c[0], c[1], c[2], c[3]);
                    return "nothing";
                }), want);
            }
            int x = coordinate();
            int y = coordinate();
            Object want;
            if (outside(x, y)) {
                want = "IllegalArgumentException";
            } else if (refuses(16)) {
                want = "IllegalStateException";
            } else {
                due.bend(x, y);
                want = due.points();
            }
            check("curve(" + x + ", " + y + ")", answerOf(() -> made.curve(x, y)), want);
        }

        void close() {
            Object want = "IllegalStateException";
            if (due.last() != null && !due.last().closed) {
                due.last().closed = true;
                want = due.closed();
            }
            check("close()", answerOf(() -> made.close()), want);
        }

        void pen() {
            int[] widths = {1, 2, 3, 16, 64, 200, 1000, 4096, 1 + random.nextInt(4096), 0, 4097};
            int[] limits = {64, 65, 90, 91, 92, 128, 640, 8192, 64 + random.nextInt(8129), 63, 8193};
            int width = widths[random.nextInt(random.nextInt(9) == 0 ? widths.length : widths.length - 2)];
            int limit = limits[random.nextInt(random.nextInt(9) == 0 ? limits.length : limits.length - 2)];
            int caps = random.nextInt(30) == 0 ? 3 - 4 * random.nextInt(2) : random.nextInt(3);
            int joins = random.nextInt(30) == 0 ? 3 - 4 * random.nextInt(2) : random.nextInt(3);
            Object want = "IllegalArgumentException";
            if (width >= 1 && width <= 4096 && caps >= 0 && caps < 3 && joins >= 0 && joins < 3 && limit >= 64 && limit <= 8192) {
                due.width = width;
                due.caps = caps;
                due.joins = joins;
                due.limit = limit;
                want = "nothing";
            }
            check("pen(" + width + ", " + caps + ", " + joins + ", " + limit + ")", answerOf(() -> {
                made.pen(width, caps, joins, limit);
                return "nothing";
            }), want);
        }

        void dash() {
            int[] lengths = {0, 0, 1, 2, 5, 64, 100, 8192, random.nextInt(8193), random.nextInt(2 * size), -1, 8193};
            int length = lengths[random.nextInt(random.nextInt(9) == 0 ? lengths.length : lengths.length - 2)];
            Object want;
            if (length < 0 || length > 8192) {
                want = "IllegalArgumentException";
            } else if (due.dashes.size() == 8) {
                want = "IllegalStateException";
            } else {
                due.dashes.add(length);
                want = due.dashes.size();
            }
            check("dash(" + length + ")", answerOf(() -> made.dash(length)), want);
        }

        void plain() {
            int[] phases = {0, 0, 1, 64, 100, 65535, random.nextInt(65536), random.nextInt(2 * size), -1, 65536};
            int phase = phases[random.nextInt(phases.length)];
            Object want = "IllegalArgumentException";
            if (phase >= 0 && phase <= 65535) {
                want = due.dashes.size();
                due.dashes.clear();
                due.phase = phase;
            }
            check("plain(" + phase + ")", answerOf(() -> made.plain(phase)), want);
        }

        void ask() {
            define();
            int r = random.nextInt(64);
            switch (random.nextInt(8)) {
                case 0:
                    int what = random.nextInt(7) - 2;
                    check("count(" + what + ")", made.count(what), counted(what));
                    break;
                case 1:
                    check("row(" + r + ")", made.row(r), due.pixels(r));
                    break;
                case 2:
                    int near = clamp(middle + random.nextInt(2 * size + 1) - size);
                    int x = random.nextInt(4) > 0 && near >= 0 && near < 4096 ? near / 64 : random.nextInt(64);
                    check("share(" + x + ", " + r + ")", made.share(x, r), due.part(x, r));
                    break;
                default:
                    for (int i = 0; i < 12; i++) {
                        askPoint();
                    }
            }
        }

        Object counted(int what) {
            if (what == 0) {
                return due.subpaths.size();
            }
            if (what == 1) {
                return due.points();
            }
            if (what == 2) {
                return due.pieceCount > 2000 ? StrokeRaster.FULL : due.pieceCount;
            }
            if (what == 3) {
                int sum = 0;
                for (int r = 0; r < 64; r++) {
                    sum += Long.bitCount(due.pixels(r));
                }
                return sum;
            }
            return StrokeRaster.NONE;
        }

        /** Mostly near the edge of a shape, where rounding tells. */
        void askPoint() {
            int x = clamp(middle + random.nextInt(4 * size + 1) - 2 * size);
            int y = clamp(middle + random.nextInt(4 * size + 1) - 2 * size);
            if (!due.shapes.isEmpty() && random.nextInt(4) > 0) {
                Shape shape = due.shapes.get(random.nextInt(due.shapes.size()));
                long[] at = new long[2];
                if (shape instanceof Polygon) {
                    long[][] corners = ((Polygon) shape).corners;
                    long[] p = corners[random.nextInt(corners.length)];
                    long[] q = corners[random.nextInt(corners.length)];
                    double t = random.nextInt(3) == 0 ? 0 : random.nextDouble();
                    at[0] = Math.round((p[0] + t * (q[0] - p[0])) / 16);
                    at[1] = Math.round((p[1] + t * (q[1] - p[1])) / 16);
                } else {
                    Disc disc = (Disc) shape;
                    double angle = random.nextInt(8) * Math.PI / 4 + random.nextInt(2) * random.nextDouble();
                    at[0] = Math.round((disc.middle[0] + disc.radius * Math.cos(angle)) / 16);
                    at[1] = Math.round((disc.middle[1] + disc.radius * Math.sin(angle)) / 16);
                }
                x = (int) Math.max(-16384, Math.min(16383, at[0] + random.nextInt(3) - 1));
                y = (int) Math.max(-16384, Math.min(16383, at[1] + random.nextInt(3) - 1));
            }
            check("has(" + x + ", " + y + ")", made.has(x, y), due.in(x, y));
        }
    }

    public static void main(String[] args) {
        int runs = args.length > 0 ? Integer.parseInt(args[0]) : 400;
        long start = args.length > 1 ? Long.parseLong(args[1]) : 1;
        for (int i = 0; i < runs; i++) {
            Run run = new Run(start + i);
            for (int turn = 0; turn < 120 && run.calls < LAST_CALL; turn++) {
                if (run.random.nextInt(3) > 0) {
                    run.change();
                } else {
                    run.ask();
                }
            }
        }
        System.out.println(wrong == 0 ? "all answers are as defined" : wrong + " answers are not as defined");
        if (wrong != 0) {
            System.exit(1);
        }
    }
}
