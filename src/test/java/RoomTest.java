import com.sun.management.ThreadMXBean;
import java.lang.management.ManagementFactory;

/**
 * All calls of one run share a room of some 600,000 objects and 7.3 million elements. With at most 512 calls
 * that is some 14,000 elements a call: no call may make more, and asking must make next to nothing.
 */
public final class RoomTest {
    private static final long MOST_BYTES = 4L * 14000;
    private static final long NEXT_TO_NOTHING = 512;
    private static final ThreadMXBean BEAN = (ThreadMXBean) ManagementFactory.getThreadMXBean();
    private static int wrong = 0;
    private static long sink = 0;

    private static long made() {
        return BEAN.getCurrentThreadAllocatedBytes();
    }

    private static void must(String what, long bytes, long most) {
        if (bytes > most) {
            wrong++;
            System.out.println(what + " makes " + bytes + " bytes, at most " + most + " are fair");
        }
    }

    public static void main(String[] args) {
        play(new FogIsland(), false);
        long before = made();
        FogIsland f = new FogIsland();
        must("a new object", made() - before, MOST_BYTES);
        play(f, true);
        System.out.println(wrong == 0 ? "the room is kept" : wrong + " calls make too much");
        if (wrong != 0) {
            System.exit(1);
        }
    }

    /** With one class's first use behind it, each call is weighed. */
    private static void play(FogIsland f, boolean weigh) {
        f.feed(0x02020602, 0x06060206, 0x00010200, 0, 0);
        long before = made();
        sink += f.coast(4);
        if (weigh) {
            must("coast", made() - before, MOST_BYTES);
        }
        for (int i = 1; i < 8; i++) {
            before = made();
            sink += f.push(0, i & 3, i > 4 ? 8 : 3);
            if (weigh) {
                must("push", made() - before, MOST_BYTES);
            }
        }
        f.feed(0x76622D64, 0x2A312D6E, 0x2A352831, 0x3D312900, 0);
        before = made();
        sink += f.law(15);
        f.sounder(20, 20, 1, 90);
        f.wrong(3);
        if (weigh) {
            must("law", made() - before, NEXT_TO_NOTHING);
        }
        for (int i = 0; i < 12; i++) {
            before = made();
            sink += f.line(i % 3 - 1, 1 - i % 3, 3, i, 1);
            for (int k = 0; k < 3; k++) {
                sink += f.hears(0, 60, 40) + f.echo(k, 0);
            }
            if (weigh) {
                must("a line and six notes", made() - before, MOST_BYTES);
            }
            before = made();
            ask(f, i);
            if (weigh) {
                must("asking", made() - before, NEXT_TO_NOTHING);
            }
        }
        before = made();
        for (int i = 0; i < 30; i++) {
            sink += f.back();
            sink += f.line(0, 0, 1, i % 24, 0) + f.hears(0, 50, 20);
            ask(f, 0);
        }
        if (weigh) {
            must("lines taken back and told anew", made() - before, NEXT_TO_NOTHING);
        }
    }

    private static void ask(FogIsland f, int line) {
        for (int c = -1; c < 8; c++) {
            sink += f.fits(c) + f.firstBad(c) + f.possible(c, line) + f.isPossible(c, line, 5, 5);
            sink += f.level(c, 0, 3, 3, 3, 3) + f.facing(c, 0, 4, 1, 0);
        }
        for (int i = 0; i < 6; i++) {
            f.choice(i, i - 3, 3 - i, i & 3);
        }
        sink += f.next(0) + f.ahead(1) + f.sure(3, 3, 0) + f.count(8);
        sink += f.wayIn(0, 0, 31, 31, -1) + f.pool(0, 0, 1);
    }
}
