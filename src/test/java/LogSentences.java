import java.util.Arrays;

/** Sentences on the log and what fits it: promises 10 to 19, with their terms. */
final class LogSentences extends Sentences {
    private LogSentences() {
    }

    static void all() {
        lines();
        moves();
        hearing();
        echoes();
        backs();
        wrongs();
        boxes();
        fits();
        badLines();
        possible();
    }

    /** The square, and one line at which one can be at one cell alone. */
    private static FogIsland squareAt(int x, int y) {
        FogIsland f = withSquare();
        f.box(x, y, x, y);
        f.line(0, 0, 0, 0, 0);
        return f;
    }

    private static FogIsland squareWithLines(int n) {
        FogIsland f = withSquare();
        for (int i = 0; i < n; i++) {
            f.line(0, 0, 0, 0, 0);
        }
        return f;
    }

    // ---- promise 10 ----

    private static void lines() {
        says(10, "NONE: no such ones");
        Asked line = (f, a) -> f.line(a[0], a[1], a[2], a[3], a[4]);
        int[] fair = {0, 0, 0, 0, 0};
        bounds("line", FogIsland::new, line, -1, fair, range(-9, 9), range(-9, 9), range(0, 3), range(0, 23), range(0, 3));
        bounds("a later line", () -> squareWithLines(2), line, -1, fair, range(-9, 9), range(-9, 9), range(0, 3), range(0, 23), range(0, 3));
        says(10, "THE LOG: LINES 0 to 11, each with a MOVE from the one before (dx, dy: -9 to 9; of LINE 0 not asked), a DRIFT (0 to 3), an HOUR, a WIND.");
        FogIsland f = withSquare();
        for (int i = 0; i < 12; i++) {
            due("LINE " + i, f.line(0, 0, 0, i, i & 3), i);
        }
        due("the last one can be asked of", f.possible(0, 11), 924);
        due("no LINE 12", f.possible(0, 12), -2);
        says(10, "A LINE: its number; NONE: no such ones, 12 are there.");
        due("a 13th", f.line(0, 0, 0, 0, 0), -1);
        due("twelve", f.count(4), 12);
        due("they hold as before", f.firstBad(0), -2);
        f.back();
        due("one taken back makes room for one", f.line(9, 9, 3, 23, 3), 11);
        due("and for no more", f.line(0, 0, 0, 0, 0), -1);
    }

    private static void moves() {
        moveOfTheFirstLine();
        moveOffTheCells();
        moveOntoLand();
        driftBothWays();
    }

    private static void moveOfTheFirstLine() {
        says(10, "of LINE 0 not asked");
        FogIsland f = withSquare();
        f.box(5, 5, 5, 5);
        f.line(9, -9, 3, 0, 0);
        due("one is in the BOX", f.isPossible(0, 0, 5, 5), 1);
        due("and nowhere else", f.possible(0, 0), 1);
        FogIsland g = withSquare();
        g.box(0, 0, 0, 0);
        g.line(-9, -9, 0, 0, 0);
        due("a MOVE that would lead off", g.fits(0), 1);
    }

    private static void moveOffTheCells() {
        says(10, "A PLACING in a COAST: a WATER CELL for each LINE");
        int[][] off = {{0, 5, -1, 0}, {31, 5, 1, 0}, {5, 0, 0, -1}, {5, 31, 0, 1}, {31, 31, 9, 9}, {0, 0, -9, -9}};
        for (int[] o : off) {
            FogIsland f = squareAt(o[0], o[1]);
            f.line(o[2], o[3], 0, 0, 0);
            due("off the CELLS from " + Arrays.toString(o), f.firstBad(0), 1);
            due("nowhere", f.possible(0, 1), 0);
            due("not at the other end of the row", f.isPossible(0, 1, 31 - o[0], o[1]), 0);
        }
        int[][] on = {{1, 5, -1, 0}, {30, 5, 1, 0}, {5, 1, 0, -1}, {5, 30, 0, 1}, {22, 22, 9, 9}, {9, 9, -9, -9}};
        for (int[] o : on) {
            FogIsland f = squareAt(o[0], o[1]);
            f.line(o[2], o[3], 0, 0, 0);
            due("the last CELL from " + Arrays.toString(o), f.isPossible(0, 1, o[0] + o[2], o[1] + o[3]), 1);
            due("it alone", f.possible(0, 1), 1);
        }
    }

    private static void moveOntoLand() {
        says(10, "a WATER CELL for each LINE, the first one in the BOX");
        int[][] moves = {{9, 15, 1, 0, 0}, {8, 15, 1, 0, 1}, {20, 15, -1, 0, 0}, {21, 15, -1, 0, 1}, {15, 9, 0, 1, 0}, {15, 8, 0, 1, 1},
            {15, 20, 0, -1, 0}, {15, 21, 0, -1, 1}};
        for (int[] m : moves) {
            FogIsland f = squareAt(m[0], m[1]);
            f.line(m[2], m[3], 0, 0, 0);
            due("by " + Arrays.toString(m), f.fits(0), m[4]);
        }
    }

    private static void driftBothWays() {
        says(10, "each further one from the one before by dx and dy, each more or less by up to DRIFT;");
        for (int drift = 0; drift <= 3; drift++) {
            FogIsland f = squareAt(5, 5);
            f.line(2, -1, drift, 0, 0);
            due("DRIFT " + drift, f.possible(0, 1), (2 * drift + 1) * (2 * drift + 1));
            for (int sign = -1; sign <= 1; sign += 2) {
                int far = sign * drift;
                due("x by " + far, f.isPossible(0, 1, 7 + far, 4), 1);
                due("x by one more", f.isPossible(0, 1, 7 + far + sign, 4), 0);
                due("y by " + far, f.isPossible(0, 1, 7, 4 + far), 1);
                due("both", f.isPossible(0, 1, 7 + far, 4 - far), 1);
                due("y by one more", f.isPossible(0, 1, 7, 4 + far + sign), 0);
            }
        }
        FogIsland f = squareAt(2, 2);
        f.line(9, 0, 3, 0, 0);
        due("cut by the edge y 0", f.possible(0, 1), 7 * 6);
        due("9 and 3 more", f.isPossible(0, 1, 14, 5), 1);
        due("9 and 4 more", f.isPossible(0, 1, 15, 5), 0);
        FogIsland g = squareAt(29, 29);
        g.line(1, 1, 3, 0, 0);
        due("cut by the edges x 31 and y 31", g.possible(0, 1), 5 * 5);
        due("none at the other end", g.isPossible(0, 1, 0, 29), 0);
        FogIsland h = squareAt(9, 15);
        h.line(1, 0, 1, 0, 0);
        due("cut by the LAND", h.possible(0, 1), 3);
    }

    // ---- promise 11 ----

    private static FogIsland squareWithSounders() {
        FogIsland f = withSquare();
        f.sounder(0, 0, 0, 50);
        f.sounder(0, 0, 0, 50);
        law(f, "vb(0=0)");
        f.line(0, 0, 0, 0, 0);
        return f;
    }

    private static void hearing() {
        says(11, "NONE: no such ones");
        bounds("hears", LogSentences::squareWithSounders, (f, a) -> f.hears(a[0], a[1], a[2]), -1, new int[] {0, 0, 0},
            range(0, 1), range(0, 99), range(0, 99));
        says(11, ", no LINE, 6 are there.");
        FogIsland f = withSquare();
        f.sounder(0, 0, 0, 50);
        due("no LINE", f.hears(0, 0, 0), -1);
        f.line(0, 0, 0, 0, 0);
        due("a LINE", f.hears(0, 0, 99), 1);
        f.back();
        due("no LINE again", f.hears(0, 0, 99), -1);
        sixNotes();
        heardAtItsOwnTime();
        notesOfTheLastLine();
        errors();
    }

    private static void heardAtItsOwnTime() {
        says(11, "a DRIFT (0 to 3), an HOUR, a WIND. NOTES of a LINE (6 at most): a SOUNDER was heard at a LEVEL");
        FogIsland f = withSquare();
        f.sounder(0, 0, 0, 50);
        law(f, "vh*4+q(0=0)");
        f.box(0, 5, 0, 5);
        f.line(0, 0, 0, 20, 3);
        f.hears(0, 83, 0);
        due("at the HOUR and the WIND of LINE 0", f.fits(0), 1);
        f.line(0, 0, 0, 1, 2);
        due("another LEVEL", f.level(0, 0, 9, 9, 5, 1), 21);
        f.hears(0, 6, 0);
        due("at those of LINE 1", f.fits(0), 1);
        f.hears(0, 83, 0);
        due("not at those of LINE 0", f.firstBad(0), 1);
    }

    private static void sixNotes() {
        says(11, "NOTES of a LINE (6 at most)");
        FogIsland f = squareWithSounders();
        for (int i = 1; i <= 6; i++) {
            due("NOTE " + i, i % 2 == 0 ? f.echo(2, 0) : f.hears(1, 50, 0), i);
        }
        due("a seventh heard", f.hears(0, 50, 0), -1);
        due("a seventh ECHO", f.echo(2, 0), -1);
        due("a seventh that does not hold", f.hears(0, 0, 0), -1);
        due("six", f.count(5), 6);
        due("they all hold", f.fits(0), 1);
        f.line(0, 0, 0, 0, 0);
        due("the next LINE has none", f.count(5), 0);
        due("and room", f.hears(0, 50, 0), 1);
    }

    private static void notesOfTheLastLine() {
        says(11, "A NOTE of the last LINE: how many it has");
        FogIsland f = squareWithSounders();
        f.line(0, 0, 0, 0, 0);
        due("of LINE 1", f.hears(0, 0, 0), 1);
        due("LINE 1 is bad, LINE 0 is not", f.firstBad(0), 1);
    }

    private static void errors() {
        says(11, "a SOUNDER was heard at a LEVEL, within an ERROR (0 to 99)");
        // The LEVEL is 50 everywhere: what was heard, within what, whether it holds.
        int[][] notes = {{50, 0, 1}, {49, 0, 0}, {51, 0, 0}, {49, 1, 1}, {51, 1, 1}, {48, 1, 0}, {52, 1, 0}, {0, 50, 1}, {0, 49, 0}, {99, 49, 1},
            {99, 48, 0}, {0, 99, 1}, {99, 99, 1}};
        for (int[] n : notes) {
            FogIsland f = squareWithSounders();
            f.hears(0, n[0], n[1]);
            due(n[0] + " within " + n[1], f.fits(0), n[2]);
        }
        says(11, "all NOTES hold (a LEVEL that is not farther off than ERROR;");
        int[][] ends = {{99, 0, 98, 0}, {99, 0, 99, 1}, {0, 99, 98, 0}, {0, 99, 99, 1}, {0, 0, 0, 1}, {99, 99, 0, 1}, {99, 98, 0, 0}};
        for (int[] e : ends) {
            FogIsland f = squareWithSounders();
            law(f, "v" + e[0] + "(0=0)");
            f.hears(0, e[1], e[2]);
            due("LEVEL " + e[0] + " heard at " + e[1] + " within " + e[2], f.fits(0), e[3]);
        }
    }

    // ---- promise 12 ----

    private static void echoes() {
        says(12, "NONE: no such ones");
        bounds("echo", () -> squareWithLines(1), (f, a) -> f.echo(a[0], a[1]), -1, new int[] {0, 0}, range(0, 3), range(0, 64));
        says(12, "A NOTE of an ECHO of the last LINE (0 to 64 counts): how many it has");
        FogIsland f = squareWithLines(1);
        int[] counts = {0, 1, 2, 62, 63, 64};
        for (int i = 0; i < 6; i++) {
            due("after " + counts[i], f.echo(i & 3, counts[i]), i + 1);
        }
        says(12, "NONE: no such ones, no LINE, 6 are there.");
        due("a seventh", f.echo(0, 0), -1);
        due("six", f.count(5), 6);
        due("no LINE", withSquare().echo(0, 0), -1);
        echoesThatHold();
        echoFarthest();
    }

    private static void echoesThatHold() {
        says(12, "an ECHO that comes or may come after just so many counts, or 0 that does not come or may not)");
        // A CELL, a DIRECTION, the counts that hold there.
        int[][] cells = {{15, 8, 0, 4, -1}, {8, 15, 1, 4, -1}, {21, 15, 3, 0, -1}, {15, 21, 2, 4, 0}, {0, 0, 0, 0, -1}, {15, 31, 0, 0, -1},
            {15, 9, 0, 2, -1}, {15, 20, 2, 2, 0}, {20, 15, 3, 0, -1}, {0, 15, 1, 20, -1}, {15, 0, 0, 20, -1}, {31, 15, 3, 0, -1},
            {15, 31, 2, 24, 0}};
        for (int[] c : cells) {
            for (int count = 0; count <= 64; count++) {
                FogIsland f = squareAt(c[0], c[1]);
                f.echo(c[2], count);
                due("at " + c[0] + ", " + c[1] + " from " + c[2] + " after " + count, f.fits(0), count == c[3] || count == c[4] ? 1 : 0);
            }
        }
        says(12, "or an ECHO came from a DIRECTION after so many counts (0: none).");
        FogIsland f = squareWithLines(1);
        f.echo(0, 0);
        due("none from above: not below the CLIFF", f.possible(0, 0), 924 - 100);
    }

    private static void echoFarthest() {
        says(12, "(0 to 64 counts)");
        FogIsland f = new FogIsland();
        island(f, from(0, 31, 32, 32), 0, 0, 0, 0);
        f.line(0, 0, 0, 0, 0);
        f.echo(0, 62);
        due("62 from the lowest row", f.possible(0, 0), 32);
        f.back();
        f.line(0, 0, 0, 0, 0);
        due("64 can be told", f.echo(0, 64), 1);
        due("but can't come", f.possible(0, 0), 0);
    }

    // ---- promise 13 ----

    private static void backs() {
        says(13, "NONE: none");
        FogIsland f = withSquare();
        due("no LINE", f.back(), -1);
        says(13, "The last LINE is taken back with its NOTES: how many LINES stay");
        for (int i = 0; i < 12; i++) {
            f.line(0, 0, 0, 0, 0);
            for (int k = 0; k < i % 7; k++) {
                f.echo(3, 0);
            }
        }
        for (int i = 11; i >= 0; i--) {
            due("NOTES of LINE " + i, f.count(5), i % 7);
            due("back", f.back(), i);
            due("LINES", f.count(4), i);
        }
        due("none", f.back(), -1);
        due("no LINES", f.count(4), 0);
        due("no NOTES", f.count(5), -1);
        backMakesItFitAgain();
        backOfFullNotes();
    }

    private static void backMakesItFitAgain() {
        says(13, "taken back with its NOTES");
        FogIsland f = squareAt(5, 5);
        f.line(1, 0, 0, 0, 0);
        f.echo(0, 64);
        due("bad", f.firstBad(0), 1);
        f.back();
        due("no more", f.firstBad(0), -2);
        due("no such LINE", f.possible(0, 1), -2);
        f.line(2, 0, 0, 0, 0);
        due("the new LINE has its own MOVE", f.isPossible(0, 1, 7, 5), 1);
        due("and no NOTES", f.possible(0, 1), 1);
        f.back();
        f.back();
        due("an empty LOG", f.fits(0), 1);
    }

    private static void backOfFullNotes() {
        says(13, "The last LINE is taken back");
        FogIsland f = squareWithLines(1);
        for (int i = 0; i < 6; i++) {
            f.echo(3, 0);
        }
        due("full", f.echo(3, 0), -1);
        f.back();
        f.line(0, 0, 0, 0, 0);
        for (int i = 1; i <= 6; i++) {
            due("room for " + i, f.echo(3, 0), i);
        }
        due("and no more", f.echo(3, 0), -1);
    }

    // ---- promise 14 ----

    private static void wrongs() {
        says(14, "How many may be WRONG: true; false: no such number.");
        bounds("wrong", LogSentences::wrongTwo, (f, a) -> asInt(f.wrong(a[0])), 0, new int[] {0}, range(0, 3));
        FogIsland f = wrongTwo();
        due("4", f.wrong(4), false);
        due("it stays", f.count(6), 2);
        due("-1", f.wrong(-1), false);
        due("it stays", f.count(6), 2);
        says(14, "but for as many as may be WRONG (0 to 3 of all; 0 at first).");
        for (int misses = 0; misses <= 4; misses++) {
            for (int may = 0; may <= 3; may++) {
                due(misses + " of one LINE wrong, " + may + " may be", missing(misses, 0).with(may), misses <= may ? 1 : 0);
                due(misses + " of two LINES wrong, " + may + " may be", missing(misses / 2, misses - misses / 2).with(may), misses <= may ? 1 : 0);
            }
        }
        due("0 at first", new FogIsland().count(6), 0);
    }

    private static FogIsland wrongTwo() {
        FogIsland f = new FogIsland();
        f.wrong(2);
        return f;
    }

    /** A log in which so many notes of two lines can't hold, among some that do. */
    private record Missing(FogIsland f) {
        int with(int may) {
            f.wrong(may);
            return f.fits(0);
        }
    }

    private static Missing missing(int first, int second) {
        FogIsland f = squareWithLines(1);
        f.echo(3, 0);
        for (int i = 0; i < first; i++) {
            f.echo(i & 3, 64);
        }
        f.line(0, 0, 0, 0, 0);
        for (int i = 0; i < second; i++) {
            f.echo(i & 3, 64);
        }
        f.echo(3, 0);
        return new Missing(f);
    }

    // ---- promise 15 ----

    private static void boxes() {
        says(15, "false: no such ones");
        bounds("box", FogIsland::new, (f, a) -> asInt(f.box(a[0], a[1], a[2], a[3])), 0, new int[] {0, 0, 31, 31},
            range(0, 31), range(0, 31), range(0, 31), range(0, 31));
        FogIsland f = withSquare();
        f.line(0, 0, 0, 0, 0);
        due("x beyond toX", f.box(6, 5, 5, 5), false);
        due("y beyond toY", f.box(5, 6, 5, 5), false);
        due("both beyond", f.box(31, 31, 0, 0), false);
        due("all as before", f.possible(0, 0), 924);
        due("x and toX, y and toY alike", f.box(5, 5, 5, 5), true);
        due("one CELL", f.possible(0, 0) * 10 + f.isPossible(0, 0, 5, 5), 11);
        due("refused", f.box(0, 0, 32, 31), false);
        due("the BOX before stays", f.possible(0, 0), 1);
        says(15, "The BOX (both ends with it): true");
        due("three by four", f.box(3, 4, 5, 7), true);
        due("its CELLS", f.possible(0, 0), 12);
        due("both ends", f.isPossible(0, 0, 3, 4) + f.isPossible(0, 0, 5, 7), 2);
        due("beyond them", f.isPossible(0, 0, 2, 4) + f.isPossible(0, 0, 3, 3) + f.isPossible(0, 0, 6, 7) + f.isPossible(0, 0, 5, 8), 0);
        due("a row", f.box(0, 31, 31, 31) ? f.possible(0, 0) : -9, 32);
        due("a column", f.box(31, 0, 31, 31) ? f.possible(0, 0) : -9, 32);
        due("all", f.box(0, 0, 31, 31) ? f.possible(0, 0) : -9, 924);
        says(15, "At LINE 0 one is in a told BOX (all CELLS at first).");
        f.line(9, 0, 0, 0, 0);
        f.box(3, 3, 3, 3);
        due("of LINE 0 alone", f.isPossible(0, 1, 12, 3), 1);
        due("told before the first LINE", boxFirst(), 1);
    }

    private static int boxFirst() {
        FogIsland f = withSquare();
        f.box(3, 3, 3, 3);
        f.line(0, 0, 0, 0, 0);
        return f.possible(0, 0);
    }

    // ---- promises 16 and 17 ----

    private static FogIsland withTwo() {
        FogIsland f = withSquare();
        f.push(0, 1, 3);
        f.line(0, 0, 0, 0, 0);
        return f;
    }

    private static void fits() {
        says(16, "NONE: no such one");
        bounds("fits", LogSentences::withTwo, (f, a) -> f.fits(a[0]), -1, new int[] {0}, range(0, 1));
        due("no COAST", new FogIsland().fits(0), -1);
        says(16, "(An empty LOG: all COASTS FIT.)");
        FogIsland f = new FogIsland();
        allLand(f);
        noLand(f);
        due("all LAND", f.fits(0), 1);
        due("no LAND", f.fits(1), 1);
        due("both", f.count(8), 3);
        says(16, "A COAST FITS, if there is one.");
        f.line(0, 0, 0, 0, 0);
        due("all LAND, one LINE", f.fits(0), 0);
        due("no LAND, one LINE", f.fits(1), 1);
        f.back();
        due("the LOG empty again", f.fits(0), 1);
        says(16, "Whether a COAST FITS (1, 0)");
        FogIsland g = squareAt(9, 15);
        g.push(0, 3, -1);
        due("WATER at the one CELL of the BOX", g.fits(0), 1);
        due("LAND there", g.fits(1), 0);
        g.push(0, 3, 1);
        due("a COAST told behind the LINE", g.fits(2), 1);
    }

    private static void badLines() {
        says(17, "NONE: no such one");
        bounds("firstBad", LogSentences::withTwo, (f, a) -> f.firstBad(a[0]), -1, new int[] {0}, range(0, 1));
        says(17, "-2: it FITS");
        FogIsland f = withSquare();
        due("an empty LOG", f.firstBad(0), -2);
        f.box(9, 0, 9, 0);
        for (int i = 0; i < 11; i++) {
            f.line(0, 0, 0, 0, 0);
        }
        due("eleven good ones", f.firstBad(0), -2);
        says(17, "THE FIRST BAD LINE of a COAST: the lowest one such that the LINES up to it alone leave no PLACING (WRONG as told).");
        f.line(0, -1, 0, 0, 0);
        due("LINE 11", f.firstBad(0), 11);
        f.box(15, 15, 15, 15);
        due("LINE 0", f.firstBad(0), 0);
        FogIsland g = squareWithLines(3);
        g.echo(0, 64);
        g.line(0, 0, 0, 0, 0);
        g.echo(0, 64);
        due("none may be WRONG", g.firstBad(0), 2);
        g.wrong(1);
        due("one may be", g.firstBad(0), 3);
        g.wrong(2);
        due("two may be", g.firstBad(0), -2);
        says(17, "THE FIRST BAD LINE; -2: it FITS");
        g.wrong(0);
        g.line(0, 0, 0, 0, 0);
        due("later LINES do not matter", g.firstBad(0), 2);
    }

    // ---- promises 18 and 19 ----

    private static FogIsland twoWithLines() {
        FogIsland f = withTwo();
        f.line(0, 0, 0, 0, 0);
        return f;
    }

    private static void possible() {
        says(18, "-2: no such ones");
        bounds("possible", LogSentences::twoWithLines, (f, a) -> f.possible(a[0], a[1]), -2, new int[] {0, 0}, range(-1, 1), range(0, 1));
        due("no LINE", withSquare().possible(0, 0), -2);
        due("no LINE, all COASTS", withSquare().possible(-1, 0), -2);
        says(18, "How many CELLS are POSSIBLE at a LINE in a COAST (NONE: in all COASTS together)");
        FogIsland f = twoWithLines();
        due("COAST 0", f.possible(0, 1), 924);
        due("COAST 1", f.possible(1, 1), 894);
        due("a CELL of both counts twice", f.possible(-1, 1), 924 + 894);
        f.box(22, 15, 22, 15);
        due("in one alone", f.possible(-1, 0), 1);
        f.box(15, 15, 15, 15);
        due("in none", f.possible(-1, 0), 0);
        says(19, "NONE: no such ones");
        bounds("isPossible", LogSentences::twoWithLines, (g, a) -> g.isPossible(a[0], a[1], a[2], a[3]), -1, new int[] {0, 0, 0, 0},
            range(0, 1), range(0, 1), range(0, 31), range(0, 31));
        due("no LINE", withSquare().isPossible(0, 0, 0, 0), -1);
        possibleByLaterLines();
        possibleByLaterLand();
        possibleByAnotherStart();
        possibleByWrongNotes();
        wrongNotesAskedByAndBy();
    }

    private static void possibleByLaterLines() {
        says(19, "POSSIBLE is a CELL at a LINE in a COAST, if some PLACING has it there.");
        FogIsland f = withSquare();
        f.box(0, 0, 31, 0);
        f.line(0, 0, 0, 0, 0);
        f.line(0, 8, 1, 0, 0);
        f.echo(0, 2);
        due("LINE 1: ten CELLS below the CLIFF", f.possible(0, 1), 10);
        due("LINE 0: one more at both ends", f.possible(0, 0), 12);
        says(19, "Whether a CELL is POSSIBLE at a LINE in a COAST (1, 0)");
        due("the last on the left", f.isPossible(0, 0, 9, 0) * 10 + f.isPossible(0, 0, 8, 0), 10);
        due("the last on the right", f.isPossible(0, 0, 20, 0) * 10 + f.isPossible(0, 0, 21, 0), 10);
        f.echo(1, 2);
        due("LINES that leave no PLACING", f.possible(0, 0) + f.possible(0, 1) + f.isPossible(0, 0, 9, 0), 0);
        f.wrong(1);
        due("with one WRONG: those below the CLIFF again", f.possible(0, 1), 10);
    }

    private static void possibleByLaterLand() {
        says(19, "A PLACING in a COAST: a WATER CELL for each LINE");
        FogIsland f = withSquare();
        f.box(8, 15, 9, 15);
        f.line(0, 0, 0, 0, 0);
        f.line(1, 0, 0, 0, 0);
        due("the one that does not come on LAND", f.possible(0, 0), 1);
        due("it is 8, 15", f.isPossible(0, 0, 8, 15) * 10 + f.isPossible(0, 0, 9, 15), 10);
        f.box(9, 15, 9, 15);
        due("the one that does", f.possible(0, 0), 0);
        FogIsland g = new FogIsland();
        island(g, from(0, 0, 1, 1), 0, 0, 0, 0);
        g.box(1, 0, 1, 0);
        g.line(0, 0, 0, 0, 0);
        g.line(-1, 0, 0, 0, 0);
        due("LAND at 0, 0", g.possible(0, 0), 0);
    }

    /** From both starts one comes to where but one note of LINE 1 is wrong; at 7, 5 that of LINE 0 is wrong as well. */
    private static void possibleByAnotherStart() {
        says(19, "but for as many as may be WRONG (0 to 3 of all; 0 at first).");
        for (int may = 0; may <= 3; may++) {
            FogIsland f = withSquare();
            f.sounder(0, 5, 0, 0);
            law(f, "vd(0=0)");
            f.box(7, 5, 9, 5);
            f.line(0, 0, 0, 0, 0);
            f.hears(0, 9, 0);
            f.line(0, 0, 1, 0, 0);
            f.echo(3, 64);
            for (int i = 0; i < may; i++) {
                f.hears(0, 8, 0);
            }
            f.wrong(may);
            due("7, 5 with " + may + " WRONG", f.isPossible(0, 0, 7, 5), may >= 2 ? 1 : 0);
            due("9, 5 with " + may + " WRONG", f.isPossible(0, 0, 9, 5), may >= 1 ? 1 : 0);
            due("it FITS with " + may + " WRONG", f.fits(0), may >= 1 ? 1 : 0);
        }
    }

    /** Three lines below the cliff, three to the right each time, with an echo that holds at 10 to 19. */
    private static FogIsland alongTheCliff() {
        FogIsland f = withSquare();
        f.box(0, 0, 31, 0);
        f.line(0, 0, 0, 0, 0);
        f.echo(1, 0);
        f.line(0, 9, 0, 0, 0);
        f.echo(0, 2);
        f.line(3, 0, 0, 0, 0);
        f.echo(0, 2);
        f.line(3, 0, 0, 0, 0);
        f.echo(0, 2);
        return f;
    }

    private static void possibleByWrongNotes() {
        says(19, "but for as many as may be WRONG (0 to 3 of all; 0 at first). A COAST FITS, if there is one. "
            + "POSSIBLE is a CELL at a LINE in a COAST, if some PLACING has it there.");
        // By how many may be WRONG: the first and the last x of LINE 0; with all three, what stays on the CELLS.
        int[][] ends = {{10, 13}, {7, 16}, {4, 19}, {0, 25}};
        FogIsland f = alongTheCliff();
        FogIsland g = alongTheCliff();
        g.echo(3, 64);
        for (int may = 3; may >= 0; may--) {
            due("each time in a new object, " + may + " WRONG", possibleRow(alongTheCliff(), may, ends[may]), 4);
            due("in one object, " + may + " WRONG", possibleRow(f, may, ends[may]), 4);
            due("and a NOTE that can't hold, " + may + " WRONG", possibleRow(g, may, may == 0 ? null : ends[may - 1]), 4);
        }
    }

    /** At how many of the four lines those cells alone are possible, by so many that may be wrong; ends: null for none. */
    private static int possibleRow(FogIsland f, int may, int[] ends) {
        int[] atX = {0, 0, 3, 6};
        int[] atY = {0, 9, 9, 9};
        due("asked before (1)", f.possible(0, 0) >= 0, true);
        f.wrong(may);
        int right = 0;
        for (int line = 0; line < 4; line++) {
            boolean all = f.possible(0, line) == (ends == null ? 0 : ends[1] - ends[0] + 1);
            for (int x = 0; x < 32; x++) {
                boolean want = ends != null && x - atX[line] >= ends[0] && x - atX[line] <= ends[1];
                all = all && f.isPossible(0, line, x, atY[line]) == (want ? 1 : 0);
            }
            right += all ? 1 : 0;
        }
        return right;
    }

    /** What was asked before a line or a note came does not change what is answered behind it. */
    private static void wrongNotesAskedByAndBy() {
        says(18, "all NOTES hold (a LEVEL that is not farther off than ERROR; an ECHO that comes or may come after just so many counts, "
            + "or 0 that does not come or may not) but for as many as may be WRONG");
        FogIsland f = withSquare();
        f.wrong(1);
        f.box(0, 9, 31, 9);
        f.line(0, 0, 0, 0, 0);
        f.echo(0, 2);
        askedTwice(f, 0, 32);
        f.line(3, 0, 0, 0, 0);
        askedTwice(f, 0, 29);
        f.echo(0, 2);
        askedTwice(f, 0, 13);
        f.line(3, 0, 0, 0, 0);
        askedTwice(f, 1, 13);
        f.echo(0, 2);
        askedTwice(f, 1, 10);
        f.back();
        askedTwice(f, 1, 13);
        f.back();
        askedTwice(f, 0, 32);
        f.line(3, 0, 0, 0, 0);
        askedTwice(f, 0, 29);
        f.back();
        askedTwice(f, 0, 32);
        f.echo(0, 2);
        askedTwice(f, 0, 10);
    }

    private static void askedTwice(FogIsland f, int line, int want) {
        due("FITS", f.fits(0), 1);
        due("FITS, asked again", f.fits(0), 1);
        due("CELLS POSSIBLE at LINE " + line, f.possible(0, line), want);
    }
}
