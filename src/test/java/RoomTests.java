import java.lang.management.ManagementFactory;

/** All calls of one run live in one room: what objects take, and that questions take nothing once asked. */
public final class RoomTests {
    private static int wrong = 0;

    private static long taken() {
        return ((com.sun.management.ThreadMXBean) ManagementFactory.getThreadMXBean()).getThreadAllocatedBytes(
                Thread.currentThread().getId());
    }

    private static void atMost(String what, long got, long most) {
        if (got > most) {
            wrong++;
            System.out.println(what + ": " + got + " bytes, at most " + most + " are due");
        }
    }

    private static StrokeRaster longest() {
        StrokeRaster s = new StrokeRaster();
        s.dash(1);
        s.move(0, 640);
        s.line(3999, 640);
        s.control(3999, 640, 3999, 640);
        for (int i = 0; i < 63; i++) {
            s.curve(3999, 640);
        }
        s.count(2);
        return s;
    }

    private static int askAll(StrokeRaster s, int times) {
        int sum = 0;
        for (int i = 0; i < times; i++) {
            s.pen(1 + i, i % 3, i / 3 % 3, 640);
            sum += s.count(2) + s.count(3) + s.share(i % 64, 53) + (s.has(i, 640) ? 1 : 0) + (int) s.row(i % 64);
        }
        return sum;
    }

    public static void main(String[] args) {
        taken();
        long before = taken();
        StrokeRaster s = longest();
        atMost("the longest stroke", taken() - before, 300_000);
        int sum = askAll(s, 1);
        before = taken();
        sum += askAll(s, 60);
        atMost("sixty pens and three hundred questions", taken() - before, 20_000);
        before = taken();
        for (int i = 0; i < 512; i++) {
            sum += new StrokeRaster().count(3);
        }
        atMost("512 objects", taken() - before, 512 * 4_000);
        System.out.println(wrong == 0 ? "there is room (" + sum + ")" : wrong + " faults");
        if (wrong != 0) {
            System.exit(1);
        }
    }
}
