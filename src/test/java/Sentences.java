import java.util.Arrays;
import java.util.function.Supplier;

/**
 * What the tests of single sentences share. A test begins with says(): the number of the promise that it stands
 * for, and the words of the document that it would see broken; SentenceTests looks the words up in the document.
 */
abstract class Sentences extends Worlds {
    static final int LEAST = Integer.MIN_VALUE;
    static final int MOST = Integer.MAX_VALUE;

    private static int promise = 0;
    private static String words = "";
    private static boolean told = true;
    private static int asked = 0;
    private static int wrong = 0;

    /** A call with its arguments in a row, so that one of them can be moved beyond its end. */
    interface Asked {
        int of(FogIsland f, int[] a);
    }

    static void says(int ofPromise, String theWords) {
        promise = ofPromise;
        words = theWords;
        told = false;
        Document.quote(ofPromise, theWords);
    }

    static void due(String what, long got, long want) {
        asked++;
        if (got != want) {
            wrong++;
            if (!told) {
                told = true;
                System.out.println("promise " + promise + ", \"" + words + "\":");
            }
            System.out.println("    " + what + " answered " + got + ", due is " + want);
        }
    }

    static void due(String what, boolean got, boolean want) {
        due(what, got ? 1 : 0, want ? 1 : 0);
    }

    static int answersAsked() {
        return asked;
    }

    static int answersWrong() {
        return wrong;
    }

    static int asInt(boolean answer) {
        return answer ? 1 : 0;
    }

    static int[] range(int from, int to) {
        return new int[] {from, to};
    }

    /** The first numbers beyond a range, those that a mask would bring back into it, and the ends of all. */
    static int[] beyond(int[] range) {
        int from = range[0];
        int to = range[1];
        return new int[] {from - 1, to + 1, from - 4, to + 4, from - 32, to + 32, from - 256, to + 256, to + 65536, LEAST, MOST};
    }

    /** Each argument in turn: taken at both ends of its range, refused beyond them, each time in a new world. */
    static void bounds(String name, Supplier<FogIsland> world, Asked call, int refused, int[] fair, int[]... ranges) {
        for (int i = 0; i < ranges.length; i++) {
            for (int end : ranges[i]) {
                int[] a = fair.clone();
                a[i] = end;
                due(name + Arrays.toString(a) + " is taken (1)", call.of(world.get(), a) != refused, true);
            }
            for (int value : beyond(ranges[i])) {
                int[] a = fair.clone();
                a[i] = value;
                due(name + Arrays.toString(a), call.of(world.get(), a), refused);
            }
        }
    }

    /** A ring of n corners like stairs, all cliffs: row y has land from x 0 on, one cell less than the row below. */
    static int[] stairs(int n) {
        int[] bytes = new int[3 * n];
        int steps = n / 2 - 1;
        bytes[2] = steps;
        for (int j = 1; j <= steps; j++) {
            bytes[4 * j] = steps - j + 1;
            bytes[4 * j + 1] = j;
            bytes[4 * j + 2] = steps - j;
            bytes[4 * j + 3] = j;
        }
        return bytes;
    }

    /** A ring that goes round twice, so that no cell is land. */
    static int noLand(FogIsland f) {
        return coast(f, 0, 0, 4, 0, 4, 4, 0, 4, 0, 0, 4, 0, 4, 4, 0, 4, 0, 0, 0, 0, 0, 0, 0, 0);
    }

    static int allLand(FogIsland f) {
        return island(f, from(0, 0, 32, 32), 0, 0, 0, 0);
    }

    /** One line, at which one can be in these cells alone (x, y, x, y ..), by a note of sounder 0, which is made for it. */
    static void onlyAt(FogIsland f, int... cells) {
        StringBuilder text = new StringBuilder("v9(");
        for (int i = 0; i < cells.length; i += 2) {
            text.append(i == 0 ? "" : "|").append("0-r=").append(cells[i]).append("&0-u=").append(cells[i + 1]);
        }
        law(f, text.append(')').toString());
        f.sounder(0, 0, 0, 0);
        f.line(0, 0, 0, 0, 0);
        f.hears(0, 9, 0);
    }
}
