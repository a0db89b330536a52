import java.util.Arrays;

/** Sentences on a new object, the tape and the coasts: promises 1 to 3, 5 to 7 and 26, with their terms. */
final class CoastSentences extends Sentences {
    private CoastSentences() {
    }

    static void all() {
        newObject();
        tape();
        coastNumbers();
        coastPlaces();
        pushes();
        landCells();
        facings();
        checks();
    }

    // ---- promise 1 ----

    private static void newObject() {
        nothingAtFirst();
        boxAtFirst();
        wrongAtFirst();
        ownMemory();
        call512();
        constant();
    }

    private static void nothingAtFirst() {
        says(1, "No COASTS, SOUNDERS, LAW, LINES, CHOICES");
        FogIsland f = new FogIsland();
        for (int what : new int[] {0, 1, 2, 3, 4, 7, 8}) {
            due("count(" + what + ")", f.count(what), 0);
        }
        due("NOTES without a LINE", f.count(5), -1);
        due("CORNERS of COAST 0", f.count(10), -1);
        due("land", f.land(0, 0, 0), -1);
        due("back", f.back(), -1);
        island(f, from(10, 10, 12, 12), 0, 0, 0, 0);
        due("level without a SOUNDER", f.level(0, 0, 0, 0, 0, 0), -1);
        f.sounder(0, 0, 3, 99);
        due("level without a LAW", f.level(0, 0, 0, 0, 0, 0), 0);
        f.line(0, 0, 0, 0, 0);
        due("next without a CHOICE", f.next(0), -2);
    }

    private static void boxAtFirst() {
        says(1, "the BOX is all");
        FogIsland f = new FogIsland();
        island(f, from(10, 10, 12, 12), 0, 0, 0, 0);
        f.line(0, 0, 0, 0, 0);
        due("all WATER CELLS", f.possible(0, 0), 1020);
        for (int[] end : new int[][] {{0, 0}, {31, 0}, {0, 31}, {31, 31}}) {
            due("the end " + Arrays.toString(end), f.isPossible(0, 0, end[0], end[1]), 1);
        }
    }

    private static void wrongAtFirst() {
        says(1, "none may be WRONG");
        FogIsland f = withSquare();
        due("count(6)", f.count(6), 0);
        f.line(0, 0, 0, 0, 0);
        f.echo(0, 64);
        due("one that can't hold", f.fits(0), 0);
    }

    private static void ownMemory() {
        says(1, "All memory is the crew's own.");
        FogIsland f = withSquare();
        FogIsland g = new FogIsland();
        f.feed(1, 2, 3, 4, 5);
        f.wrong(3);
        f.choice(5, 1, 1, 1);
        f.line(0, 0, 0, 0, 0);
        f.sounder(1, 1, 1, 1);
        for (int what : new int[] {0, 1, 2, 3, 4, 6, 7, 8}) {
            due("the other's count(" + what + ")", g.count(what), 0);
        }
        island(g, from(0, 0, 1, 1), 0, 0, 0, 0);
        due("one's own land", f.land(0, 0, 0), 0);
        due("the other's land", g.land(0, 0, 0), 1);
    }

    private static void call512() {
        says(1, "An object is used for at most 512 calls after it has been made; what later calls answer is free.");
        FogIsland f = withSquare();
        for (int call = 3; call < 512; call++) {
            due("call " + call, f.land(0, call & 31, 15), (call & 31) >= 10 && (call & 31) < 20 ? 1 : 0);
        }
        due("call 512", f.push(0, 0, 1), 1);
    }

    private static void constant() {
        says(1, "The constants: `NONE = -1`: There is none.");
        due("NONE", FogIsland.NONE, -1);
    }

    // ---- promise 2 ----

    private static void tape() {
        twentyBytesEach();
        highestFirst();
        bytesBeyond127();
        tapeFull();
    }

    private static void twentyBytesEach() {
        says(2, "Twenty bytes come behind the tape");
        FogIsland f = new FogIsland();
        feedText(f, "v77(0=0);v88(0=0);v9");
        feedText(f, "9(0=0)");
        due("both together are a LAW", f.law(26), 3);
        says(2, ": how many it has");
        for (int i = 1; i <= 11; i++) {
            due("feed " + i, f.feed(0, 0, 0, 0, 0), 20 * i);
            due("count(3)", f.count(3), 20 * i);
        }
    }

    private static void highestFirst() {
        says(2, "the highest of each int first");
        FogIsland f = new FogIsland();
        due("v5(1 = 0x76352831 ..", f.feed(0x76352831, 0x3D31293B, 0x76362830, 0x3D302900, 0), 20);
        due("v5(1=1);v6(0=0)", f.law(15), 2);
    }

    private static void bytesBeyond127() {
        says(2, "Twenty bytes come behind the tape, the highest of each int first");
        FogIsland f = new FogIsland();
        allLand(f);
        f.feed(-1, -1, -1, -1, -1);
        due("255 in all places", f.check(0, 5), 5);
        f.feed(LEAST, -1, -1, -1, -1);
        due("the highest bit alone", f.check(0, 5), 0);
        f.feed(-1, -1, MOST, -1, -1);
        due("all but the highest bit", f.check(0, 5), 2);
    }

    private static void tapeFull() {
        says(2, "NONE if that would be more than 220");
        FogIsland f = new FogIsland();
        feedText(f, "v77(0=0);v88(0=0)");
        for (int i = 2; i <= 11; i++) {
            f.feed(0, 0, 0, 0, 0);
        }
        due("220 bytes", f.count(3), 220);
        due("20 more", f.feed(-1, -1, -1, -1, -1), -1);
        due("once more", f.feed(-1, -1, -1, -1, -1), -1);
        due("220 bytes still", f.count(3), 220);
        due("with what they were", f.law(17), 2);
        due("there is room again", f.feed(0, 0, 0, 0, 0), 20);
    }

    // ---- promise 3 ----

    private static void coastNumbers() {
        howManyCorners();
        tapeTooShort();
        eightCoasts();
        firstBytes();
        xThenYThenSorts();
        emptyThen();
    }

    private static void howManyCorners() {
        says(3, "A COAST (0 to 7): a ring of 4 to 16 CORNERS (an even number)");
        for (int n = 4; n <= 16; n += 2) {
            FogIsland f = new FogIsland();
            due("coast(" + n + ")", coast(f, stairs(n)), 0);
            due("its CORNERS", f.count(10), n);
            int steps = n / 2 - 1;
            due("its lowest row", f.land(0, steps - 1, 0), 1);
            due("beyond it", f.land(0, steps, 0), 0);
            due("its highest row", f.land(0, 0, steps - 1), 1);
            due("above it", f.land(0, 0, steps), 0);
        }
        says(3, "NONE: no such n");
        for (int n : new int[] {2, 18, 3, 5, 7, 9, 11, 13, 15, 17, 0, -2, -4, 1, 20, 260, LEAST, MOST, LEAST + 4, 1 << 30}) {
            FogIsland f = new FogIsland();
            feedBytes(f, Arrays.copyOf(stairs(4), 60));
            due("coast(" + n + ")", f.coast(n), -1);
            due("the tape stays", f.count(3), 60);
            due("no COAST", f.count(0), 0);
        }
    }

    private static void tapeTooShort() {
        says(3, "it has not so many (the tape stays)");
        for (int n = 4; n <= 16; n += 2) {
            for (int has = 0; has <= 60; has += 20) {
                FogIsland f = new FogIsland();
                feedBytes(f, Arrays.copyOf(stairs(n), has));
                due("coast(" + n + ") by " + has + " bytes", f.coast(n), 3 * n <= has ? 0 : -1);
                due("the tape", f.count(3), 3 * n <= has ? 0 : has);
            }
        }
        FogIsland f = new FogIsland();
        feedBytes(f, Arrays.copyOf(stairs(8), 20));
        due("four bytes too few", f.coast(8), -1);
        f.feed(0, 0, 0, 0, 0);
        due("with them", f.coast(8), 0);
    }

    private static void eightCoasts() {
        says(3, ": its number");
        FogIsland f = new FogIsland();
        for (int i = 0; i < 8; i++) {
            due("COAST " + i, island(f, from(i, 0, i + 1, 1), 0, 0, 0, 0), i);
        }
        says(3, "8 are there");
        due("a ninth", island(f, from(9, 0, 10, 1), 0, 0, 0, 0), -1);
        due("the tape stays", f.count(3), 20);
        due("eight", f.count(0), 8);
        due("no COAST 8", f.land(8, 9, 0), -1);
        due("COAST 7 as it was", f.land(7, 7, 0), 1);
        due("a ninth with a fault is refused as well", f.coast(6), -1);
    }

    private static void firstBytes() {
        says(3, "A COAST of n CORNERS by the first 3 n bytes of the tape");
        FogIsland f = new FogIsland();
        feedBytes(f, 2, 2, 6, 2, 6, 6, 2, 6, 0, 1, 2, 0, 255, 255, 255, 255, 255, 255, 255, 255, 255);
        due("what comes behind them is not asked", f.coast(4), 0);
    }

    private static void xThenYThenSorts() {
        says(3, "(x, y of each, then the SORTS; empty then)");
        FogIsland f = new FogIsland();
        due("a coast", coast(f, 2, 10, 6, 10, 6, 14, 2, 14, 2, 1, 0, 2), 0);
        due("the tape", f.count(3), 0);
        due("x 2, y 10", f.land(0, 2, 10), 1);
        due("x 10, y 2", f.land(0, 10, 2), 0);
        int[][] sides = {{3, 9, 0, 2}, {6, 12, 3, 1}, {3, 14, 2, 0}, {1, 12, 1, 2}};
        for (int i = 0; i < 4; i++) {
            due("the SORT of side " + i, f.facing(0, sides[i][0], sides[i][1], sides[i][2], 1), sides[i][3]);
        }
    }

    private static void emptyThen() {
        says(3, "else -1000 less the first place that can't be");
        FogIsland f = new FogIsland();
        f.feed(0, 0, 0, 0, 0);
        f.feed(0, 0, 0, 0, 0);
        due("all CORNERS in one place", f.coast(4), -1002);
        due("the tape is empty", f.count(3), 0);
        due("no COAST", f.count(0), 0);
        due("no CORNERS", f.count(10), -1);
    }

    private static int square(int place, int value) {
        int[] bytes = {0, 0, 32, 0, 32, 32, 0, 32, 0, 1, 2, 2};
        if (place >= 0) {
            bytes[place] = value;
        }
        return coast(new FogIsland(), bytes);
    }

    private static void coastPlaces() {
        cornersOutside();
        cornersThatDoNotGoOn();
        lastCornerCloses();
        sortsOutside();
        firstPlace();
    }

    private static void cornersOutside() {
        says(3, "x, y (0 to 32)");
        due("the ends of both", square(-1, 0), 0);
        says(3, "its x, its y outside");
        for (int place = 0; place < 8; place++) {
            for (int value : new int[] {33, 64, 127, 128, 255}) {
                due(value + " at " + place, square(place, value), -1000 - place);
            }
        }
        int[] last = stairs(16);
        last[31] = 33;
        due("the last y of 16", coast(new FogIsland(), last), -1031);
    }

    private static void cornersThatDoNotGoOn() {
        says(3, "each side alternately along x and along y (the first along x)");
        due("the first along y", coast(new FogIsland(), 2, 2, 2, 6, 6, 6, 6, 2, 0, 0, 0, 0), -1002);
        due("two along x", coast(new FogIsland(), 2, 2, 6, 2, 8, 2, 2, 6, 0, 0, 0, 0), -1004);
        due("two along y", coast(new FogIsland(), 2, 2, 6, 2, 6, 6, 6, 8, 0, 0, 0, 0), -1006);
        says(3, "then (at its x) one that does not go on as it must");
        due("CORNER 1 aslant", coast(new FogIsland(), 2, 2, 6, 3, 6, 6, 2, 6, 0, 0, 0, 0), -1002);
        due("CORNER 2 aslant", coast(new FogIsland(), 2, 2, 6, 2, 7, 6, 2, 6, 0, 0, 0, 0), -1004);
        due("CORNER 3 aslant", coast(new FogIsland(), 2, 2, 6, 2, 6, 6, 2, 7, 0, 0, 0, 0), -1006);
        due("CORNER 2 leads back", coast(new FogIsland(), 2, 2, 6, 2, 6, 0, 2, 0, 0, 0, 0, 0), 0);
        says(3, "no side of length 0");
        due("side 0", coast(new FogIsland(), 2, 2, 2, 2, 2, 6, 2, 6, 0, 0, 0, 0), -1002);
        due("side 1", coast(new FogIsland(), 2, 2, 6, 2, 6, 2, 2, 2, 0, 0, 0, 0), -1004);
        due("side 2", coast(new FogIsland(), 2, 2, 6, 2, 6, 6, 6, 6, 0, 0, 0, 0), -1006);
        due("all of length 1", coast(new FogIsland(), 2, 2, 3, 2, 3, 3, 2, 3, 0, 0, 0, 0), 0);
    }

    private static void lastCornerCloses() {
        says(3, "the last CORNER joined to the first one (along y), no side of length 0");
        due("right of the first", coast(new FogIsland(), 2, 2, 6, 2, 6, 6, 3, 6, 0, 0, 0, 0), -1006);
        due("left of the first", coast(new FogIsland(), 2, 2, 6, 2, 6, 6, 1, 6, 0, 0, 0, 0), -1006);
        says(3, "the last one also one that does not close");
        due("on the first", coast(new FogIsland(), 2, 2, 6, 2, 6, 6, 4, 6, 4, 2, 2, 2, 0, 0, 0, 0, 0, 0), -1010);
        due("one above the first", coast(new FogIsland(), 2, 2, 6, 2, 6, 6, 4, 6, 4, 3, 2, 3, 0, 0, 0, 0, 0, 0), 0);
        due("only the last one must", coast(new FogIsland(), 2, 2, 6, 2, 6, 6, 4, 6, 4, 8, 2, 8, 0, 0, 0, 0, 0, 0), 0);
        int[] open = stairs(16);
        open[30] = 9;
        due("the last of 16", coast(new FogIsland(), open), -1030);
    }

    private static void sortsOutside() {
        says(3, "side i goes from CORNER i to the next one, its SORT: 0 CLIFF, 1 BEACH, 2 UNKNOWN.");
        for (int place = 8; place < 12; place++) {
            for (int value = 0; value <= 2; value++) {
                due("SORT " + value + " at " + place, square(place, value), 0);
            }
        }
        says(3, "then the SORTS");
        for (int place = 8; place < 12; place++) {
            for (int value : new int[] {3, 4, 128, 255}) {
                due("SORT " + value + " at " + place, square(place, value), -1000 - place);
            }
        }
        int[] last = stairs(16);
        last[47] = 3;
        due("the last of 16", coast(new FogIsland(), last), -1047);
    }

    private static void firstPlace() {
        says(3, "the first place that can't be: CORNER by CORNER: its x, its y outside, then (at its x) one that does not go on");
        due("x and y of CORNER 0", coast(new FogIsland(), 33, 33, 6, 2, 6, 6, 2, 6, 0, 0, 0, 0), -1000);
        due("x outside and not going on", coast(new FogIsland(), 2, 2, 33, 5, 6, 6, 2, 6, 0, 0, 0, 0), -1002);
        due("y outside and not going on", coast(new FogIsland(), 2, 2, 2, 33, 6, 6, 2, 6, 0, 0, 0, 0), -1003);
        due("1 does not go on, 2 is outside", coast(new FogIsland(), 2, 2, 6, 3, 33, 33, 2, 6, 0, 0, 0, 0), -1002);
        due("1 and 2 do not go on", coast(new FogIsland(), 2, 2, 6, 3, 7, 9, 2, 6, 0, 0, 0, 0), -1002);
        due("y of the last outside, it does not close", coast(new FogIsland(), 2, 2, 6, 2, 6, 6, 3, 33, 0, 0, 0, 0), -1007);
        due("the last does not close, a SORT", coast(new FogIsland(), 2, 2, 6, 2, 6, 6, 3, 6, 3, 3, 3, 3), -1006);
        due("two SORTS", coast(new FogIsland(), 2, 2, 6, 2, 6, 6, 2, 6, 0, 3, 0, 9), -1009);
    }

    // ---- promise 5 ----

    private static void pushes() {
        pushArguments();
        pushBy();
        pushMovesBothEnds();
        pushOutside();
        pushToLengthZero();
        pushEight();
    }

    private static FogIsland withHook() {
        FogIsland f = new FogIsland();
        coast(f, 4, 4, 12, 4, 12, 8, 8, 8, 8, 12, 4, 12, 0, 0, 0, 0, 0, 0);
        return f;
    }

    private static void pushArguments() {
        says(5, "NONE: no such ones");
        bounds("push", CoastSentences::withHook, (f, a) -> f.push(a[0], a[1], a[2]), -1, new int[] {0, 2, 1},
            range(0, 0), range(0, 5));
        FogIsland f = withSquare();
        due("side 3 of four", f.push(0, 3, 1), 1);
        due("side 4 of four", f.push(0, 4, 1), -1);
    }

    private static void pushBy() {
        says(5, "-9 to 9, not 0");
        for (int by = -12; by <= 12; by++) {
            FogIsland f = withSquare();
            due("push(0, 0, " + by + ")", f.push(0, 0, by), by == 0 || by < -9 || by > 9 ? -1 : 1);
        }
        for (int by : new int[] {LEAST, MOST, 256, -256, 32, -32}) {
            due("push(0, 0, " + by + ")", withSquare().push(0, 0, by), -1);
        }
    }

    private static void pushMovesBothEnds() {
        says(5, "PUSHED: a new COAST from one, one side moved by so much (along x if it goes along y, else along y;");
        FogIsland f = withSquare();
        // Below up, right to the right, above up, left to the left: which ends the land has then.
        int[][] pushed = {{0, 3, 10, 13, 19, 19}, {1, 4, 10, 10, 23, 19}, {2, 5, 10, 10, 19, 24}, {3, -6, 4, 10, 19, 19}};
        for (int i = 0; i < 4; i++) {
            int[] p = pushed[i];
            due(": the number of the new COAST", f.push(0, p[0], p[1]), i + 1);
            due("its least CELL", f.land(i + 1, p[2], p[3]), 1);
            due("its greatest CELL", f.land(i + 1, p[4], p[5]), 1);
            due("left of it", f.land(i + 1, p[2] - 1, p[3]), 0);
            due("below it", f.land(i + 1, p[2], p[3] - 1), 0);
            due("right of it", f.land(i + 1, p[4] + 1, p[5]), 0);
            due("above it", f.land(i + 1, p[4], p[5] + 1), 0);
        }
        says(5, ", its ends with it.");
        due("from CORNER 3 and CORNER 0", f.land(4, 4, 10) + f.land(4, 4, 19), 2);
        due("the old one stays", f.land(0, 10, 10) * 10 + f.land(0, 9, 10), 10);
        due("as many CORNERS", f.count(14), 4);
        due("the SORTS stay", f.facing(4, 3, 15, 1, 1) + 10 * f.facing(4, 20, 15, 3, 1) + 100 * f.facing(4, 15, 20, 2, 1), 210);
        says(5, "PUSHED: the number of the new COAST");
        due("the sixth", f.push(4, 3, 1), 5);
        due("turned over its other side", f.push(1, 2, -9), 6);
        due("land where there was none", f.land(6, 15, 11) + f.land(6, 15, 12), 2);
        due("and no more", f.land(6, 15, 10) + f.land(6, 15, 13), 0);
    }

    private static void pushOutside() {
        says(5, "-2: a CORNER would be outside");
        int[][] ends = {{0, -2, 1}, {0, -3, -2}, {1, 2, 1}, {1, 3, -2}, {2, 2, 1}, {2, 3, -2}, {3, -2, 1}, {3, -3, -2}, {2, 9, -2}, {0, -9, -2}};
        for (int[] e : ends) {
            FogIsland f = new FogIsland();
            island(f, from(2, 2, 30, 30), 0, 0, 0, 0);
            due("side " + e[0] + " by " + e[1], f.push(0, e[0], e[1]), e[2]);
            due("the COASTS", f.count(0), e[2] == 1 ? 2 : 1);
        }
    }

    private static void pushToLengthZero() {
        says(5, "a side of length 0");
        // By side: how far it can go till the side before it, and till the one behind it, has no length.
        int[][] none = {{0, 8}, {0, 4}, {1, -8}, {1, -4}, {2, -4}, {2, 4}, {3, 4}, {3, -4}, {4, -4}, {4, -8}, {5, 4}, {5, 8}};
        for (int[] n : none) {
            due("side " + n[0] + " by " + n[1], withHook().push(0, n[0], n[1]), -2);
            due("one less", withHook().push(0, n[0], n[1] - Integer.signum(n[1])), 1);
            due("one more", withHook().push(0, n[0], n[1] + Integer.signum(n[1])), 1);
        }
    }

    private static void pushEight() {
        says(5, "8 are there");
        FogIsland f = withSquare();
        for (int i = 1; i < 8; i++) {
            due("COAST " + i, f.push(i - 1, 1, 1), i);
        }
        due("a ninth", f.push(0, 1, 1), -1);
        due("eight", f.count(0), 8);
        due("none beyond", f.land(8, 15, 15), -1);
        FogIsland g = new FogIsland();
        for (int i = 0; i < 7; i++) {
            island(g, from(i, 0, i + 1, 1), 0, 0, 0, 0);
        }
        due("the eighth by push", g.push(6, 0, -9), -2);
        due("a refused one leaves room", g.push(6, 2, 9), 7);
    }

    // ---- promise 6 ----

    private static void landCells() {
        landArguments();
        landOfARow();
        landAtItsOwnX();
        landOddNumber();
        landAtTheEnds();
    }

    private static FogIsland withTwo() {
        FogIsland f = withSquare();
        f.push(0, 1, 3);
        return f;
    }

    private static void landArguments() {
        says(6, "NONE: no such ones");
        bounds("land", CoastSentences::withTwo, (f, a) -> f.land(a[0], a[1], a[2]), -1, new int[] {0, 0, 0},
            range(0, 1), range(0, 31), range(0, 31));
        says(6, "CELLS x, y (0 to 31)");
        FogIsland f = new FogIsland();
        allLand(f);
        due("the four ends", f.land(0, 0, 0) + f.land(0, 31, 0) + f.land(0, 0, 31) + f.land(0, 31, 31), 4);
        due("x 32", f.land(0, 32, 0), -1);
        due("y 32", f.land(0, 0, 32), -1);
        due("no COAST 7 of one", f.land(7, 0, 0), -1);
    }

    private static void landOfARow() {
        says(6, "A CELL is LAND, if of the sides along y that go through its row (from its y to y + 1)");
        FogIsland f = withSquare();
        due("the row where they begin", f.land(0, 15, 10), 1);
        due("the one below", f.land(0, 15, 9), 0);
        due("the row where they end", f.land(0, 15, 19), 1);
        due("the one above", f.land(0, 15, 20), 0);
    }

    private static void landAtItsOwnX() {
        says(6, "lies at an x not above its own; else WATER.");
        FogIsland f = withSquare();
        due("x as the side's", f.land(0, 10, 15), 1);
        due("one less", f.land(0, 9, 15), 0);
        due("x below the other side's", f.land(0, 19, 15), 1);
        due("x as the other side's", f.land(0, 20, 15), 0);
    }

    private static void landOddNumber() {
        says(6, "an odd number");
        FogIsland f = new FogIsland();
        due("round and round again", noLand(f), 0);
        due("0 and 2 and 4", f.land(0, 0, 0) + f.land(0, 3, 3) + f.land(0, 4, 0) + f.land(0, 31, 31), 0);
        // Sides at 0, 4, 8 and 12 through row 6.
        coast(f, 0, 0, 8, 0, 8, 8, 4, 8, 4, 4, 12, 4, 12, 12, 0, 12, 0, 0, 0, 0, 0, 0, 0, 0);
        int[] want = {1, 0, 1, 0};
        for (int i = 0; i < 4; i++) {
            due("behind " + (i + 1) + " of them", f.land(1, 4 * i, 6), want[i]);
            due("and up to the next", f.land(1, 4 * i + 3, 6), want[i]);
        }
    }

    private static void landAtTheEnds() {
        says(6, "Whether a CELL is LAND (1, 0)");
        FogIsland f = new FogIsland();
        island(f, from(31, 31, 32, 32), 0, 0, 0, 0);
        due("the last CELL", f.land(0, 31, 31), 1);
        due("left of it", f.land(0, 30, 31), 0);
        due("below it", f.land(0, 31, 30), 0);
        island(f, from(0, 0, 1, 1), 0, 0, 0, 0);
        due("the first CELL", f.land(1, 0, 0), 1);
        due("right of it", f.land(1, 1, 0), 0);
        due("above it", f.land(1, 0, 1), 0);
    }

    // ---- promise 7 ----

    private static void facings() {
        facingArguments();
        facingFromLand();
        facingLeastAndMost();
        facingNothing();
        facingLowestSide();
        facingSorts();
        facingFirstLand();
    }

    private static void facingArguments() {
        says(7, "NONE: no such ones");
        bounds("facing", CoastSentences::withTwo, (f, a) -> f.facing(a[0], a[1], a[2], a[3], a[4]), -1,
            new int[] {0, 0, 0, 0, 0}, range(0, 1), range(0, 31), range(0, 31), range(0, 3), range(0, 2));
        says(7, "-3: it is LAND; NONE: no such ones.");
        due("on LAND, no such direction", withSquare().facing(0, 15, 15, 4, 0), -1);
        due("on LAND, no such what", withSquare().facing(0, 15, 15, 0, 3), -1);
    }

    private static void facingFromLand() {
        says(7, "-3: it is LAND");
        FogIsland f = withSquare();
        for (int what = 0; what < 3; what++) {
            for (int direction = 0; direction < 4; direction++) {
                due("the first LAND CELL", f.facing(0, 10, 10, direction, what), -3);
                due("the last LAND CELL", f.facing(0, 19, 19, direction, what), -3);
            }
        }
        due("beside it", f.facing(0, 9, 10, 1, 0), 1);
    }

    private static void facingLeastAndMost() {
        says(7, "FACING from a WATER CELL in a DIRECTION (0 up: y + 1, 1 right: x + 1, 2 down, 3 left)");
        int[][] walls = {{0, 31, 32, 32}, {31, 0, 32, 32}, {0, 0, 32, 1}, {0, 0, 1, 32}};
        for (int d = 0; d < 4; d++) {
            FogIsland f = new FogIsland();
            island(f, walls[d], 0, 0, 0, 0);
            for (int steps = 1; steps <= 31; steps++) {
                int far = d < 2 ? 31 - steps : steps;
                int x = d % 2 == 0 ? 5 : far;
                int y = d % 2 == 0 ? far : 5;
                due(d + " from " + x + ", " + y, f.facing(0, x, y, d, 0), steps);
            }
            due("31 steps: its count", f.facing(0, d == 3 ? 31 : d == 1 ? 0 : 5, d == 2 ? 31 : d == 0 ? 0 : 5, d, 2), 62);
        }
    }

    private static void facingNothing() {
        says(7, "the steps to the first LAND CELL (1 on; none before the edge of the CELLS: 0)");
        FogIsland f = withSquare();
        int[][] none = {{15, 31, 0}, {31, 15, 1}, {15, 0, 2}, {0, 15, 3}, {15, 20, 0}, {20, 15, 1}, {15, 9, 2}, {9, 15, 3},
            {9, 0, 0}, {20, 0, 0}, {0, 9, 1}, {0, 20, 1}, {9, 31, 2}, {20, 31, 2}, {31, 9, 3}, {31, 20, 3}, {31, 12, 1}, {0, 12, 3}};
        for (int[] n : none) {
            due(Arrays.toString(n) + " steps", f.facing(0, n[0], n[1], n[2], 0), 0);
        }
        says(7, "what 0 steps, 1 the SORT (-2: no LAND)");
        for (int[] n : none) {
            due(Arrays.toString(n) + " SORT", f.facing(0, n[0], n[1], n[2], 1), -2);
        }
        says(7, "2 the count of an ECHO that comes or may come (0: none)");
        for (int[] n : none) {
            due(Arrays.toString(n) + " count", f.facing(0, n[0], n[1], n[2], 2), 0);
        }
    }

    private static void facingLowestSide() {
        says(7, "its SORT: of the sides that lie between that CELL and the WATER one before it, of which there is at least one, "
            + "that of the lowest number.");
        FogIsland f = new FogIsland();
        // Sides 1, 5 and 9 lie on one another at x 8, from y 4 to 8.
        coast(f, 0, 0, 8, 0, 8, 8, 6, 8, 6, 4, 8, 4, 8, 12, 4, 12, 4, 3, 8, 3, 8, 14, 0, 14, 0, 1, 0, 0, 0, 2, 0, 0, 0, 0, 0, 0);
        due("three along y: steps", f.facing(0, 9, 5, 3, 0), 2);
        due("three along y: the first of them", f.facing(0, 9, 5, 3, 1), 1);
        due("above them the last of them alone", f.facing(0, 9, 13, 3, 1), 0);
        due("the first of them alone", f.facing(0, 9, 2, 3, 1), 1);
        // The same ring turned over, so that sides 0, 4 and 8 lie on one another at y 8, from x 4 to 8.
        coast(f, 0, 8, 8, 8, 8, 6, 4, 6, 4, 8, 12, 8, 12, 4, 3, 4, 3, 8, 14, 8, 14, 0, 0, 0, 1, 0, 0, 0, 2, 0, 0, 0, 0, 0, 0, 0);
        due("three along x: steps", f.facing(1, 5, 9, 2, 0), 2);
        due("three along x: the first of them", f.facing(1, 5, 9, 2, 1), 1);
        due("beside them the last of them alone", f.facing(1, 13, 9, 2, 1), 0);
        // Sides 1 and 3 lie at one x, one above the other, and side 5 too: each CELL has its own.
        coast(f, 0, 0, 8, 0, 8, 4, 6, 4, 6, 6, 8, 6, 8, 9, 0, 9, 0, 1, 0, 0, 0, 2, 0, 0);
        due("the lower end of side 1", f.facing(2, 9, 0, 3, 1), 1);
        due("its upper end", f.facing(2, 9, 3, 3, 1), 1);
        due("between them side 3", f.facing(2, 9, 4, 3, 0) * 10 + f.facing(2, 9, 5, 3, 1), 40);
        due("the lower end of side 5", f.facing(2, 9, 6, 3, 1), 2);
        due("its upper end", f.facing(2, 9, 8, 3, 1), 2);
    }

    private static void facingSorts() {
        says(7, "AN ECHO comes after twice the steps, if there is such a CELL and the SORT is CLIFF;");
        FogIsland f = withSquare();
        due("a CLIFF, 1 step", f.facing(0, 15, 9, 0, 2), 2);
        due("a CLIFF, 10 steps", f.facing(0, 15, 0, 0, 2), 20);
        due("its SORT", f.facing(0, 15, 9, 0, 1), 0);
        says(7, "it may come if it is UNKNOWN; else it does not (0).");
        due("UNKNOWN, 1 step", f.facing(0, 15, 20, 2, 2), 2);
        due("its SORT", f.facing(0, 15, 20, 2, 1), 2);
        due("a BEACH, 1 step", f.facing(0, 20, 15, 3, 2), 0);
        due("a BEACH, 12 steps", f.facing(0, 31, 15, 3, 2), 0);
        due("its SORT", f.facing(0, 20, 15, 3, 1), 1);
        due("its steps", f.facing(0, 20, 15, 3, 0), 1);
    }

    private static void facingFirstLand() {
        says(7, "FACING, what 0 steps");
        FogIsland f = new FogIsland();
        // Two lands in a row: only the nearer one is faced.
        coast(f, 4, 4, 20, 4, 20, 8, 16, 8, 16, 5, 8, 5, 8, 8, 4, 8, 0, 1, 0, 2, 0, 1, 0, 0);
        due("from the left", f.facing(0, 0, 6, 1, 0) * 10 + f.facing(0, 0, 6, 1, 1), 40);
        due("between, to the left", f.facing(0, 15, 6, 3, 0) * 10 + f.facing(0, 15, 6, 3, 1), 81);
        due("between, to the right", f.facing(0, 8, 6, 1, 0) * 10 + f.facing(0, 8, 6, 1, 1), 82);
        due("from the right", f.facing(0, 20, 6, 3, 0) * 10 + f.facing(0, 20, 6, 3, 1), 11);
    }

    // ---- promise 26 ----

    private static void checks() {
        checkArguments();
        checkTapeTooShort();
        checkRight();
        checkFirstWrong();
        checkLacking();
        checkBits();
        checkEmptiesTheTape();
    }

    private static FogIsland withRows() {
        FogIsland f = new FogIsland();
        noLand(f);
        noLand(f);
        for (int i = 0; i < 8; i++) {
            f.feed(0, 0, 0, 0, 0);
        }
        return f;
    }

    private static void checkArguments() {
        says(26, "-2: no such one, n above 32");
        bounds("check", CoastSentences::withRows, (f, a) -> f.check(a[0], a[1]), -2, new int[] {0, 4}, range(0, 1), range(0, 32));
        FogIsland f = withRows();
        due("no such COAST", f.check(2, 32), -2);
        due("n 33", f.check(0, 33), -2);
        due("the tape stays", f.count(3), 160);
    }

    private static void checkTapeTooShort() {
        says(26, "it has not so many (the tape stays)");
        FogIsland f = new FogIsland();
        noLand(f);
        due("one number of none", f.check(0, 1), -2);
        f.feed(0, 0, 0, 0, 0);
        due("six numbers of five", f.check(0, 6), -2);
        due("the tape stays", f.count(3), 20);
        due("five of five", f.check(0, 5), 5);
        for (int i = 0; i < 6; i++) {
            f.feed(0, 0, 0, 0, 0);
        }
        due("31 of 30", f.check(0, 31), -2);
        due("32 of 30", f.check(0, 32), -2);
        due("the tape stays", f.count(3), 120);
        due("30 of 30", f.check(0, 30), 30);
    }

    /** Eight feeds whose numbers are the rows of the square, one of them changed by these bits. */
    private static void feedSquare(FogIsland f, int row, int bits) {
        int[] n = new int[35];
        for (int y = 10; y < 20; y++) {
            n[y] = 0x000FFC00;
        }
        n[row] ^= bits;
        for (int i = 0; i < 35; i += 5) {
            f.feed(n[i], n[i + 1], n[i + 2], n[i + 3], n[i + 4]);
        }
    }

    private static void checkRight() {
        says(26, "NONE: right");
        FogIsland f = withSquare();
        feedSquare(f, 0, 0);
        due("32 right ones", f.check(0, 32), -1);
        feedSquare(f, 32, -1);
        due("what comes behind them is not asked", f.check(0, 32), -1);
    }

    private static void checkFirstWrong() {
        says(26, "else the place of the first number that is not so");
        for (int row : new int[] {0, 9, 10, 19, 20, 31}) {
            FogIsland f = withSquare();
            feedSquare(f, row, 1);
            due("row " + row + " at x 0", f.check(0, 32), row);
            feedSquare(f, row, LEAST);
            due("row " + row + " at x 31", f.check(0, 32), row);
        }
        FogIsland f = withSquare();
        f.feed(0, 1, 0, 1, 0);
        due("two of them", f.check(0, 5), 1);
        says(26, "CHECK of a COAST: rows of LAND by y, a bit for each x: right, or the first number that is not so.");
        f.feed(1, 0, 0, 0, 0);
        due("the first number", f.check(0, 1), 0);
    }

    private static void checkLacking() {
        says(26, "(n: some are lacking)");
        FogIsland f = withSquare();
        due("none at all", f.check(0, 0), 0);
        feedSquare(f, 0, 0);
        due("31 right ones", f.check(0, 31), 31);
        feedSquare(f, 31, 1);
        due("31 right ones, the 32nd is not asked", f.check(0, 31), 31);
        feedSquare(f, 0, 0);
        due("one right one", f.check(0, 1), 1);
        feedSquare(f, 30, 1);
        due("the last one of 31 wrong", f.check(0, 31), 30);
    }

    private static void checkBits() {
        says(26, "rows of LAND by y, a bit for each x");
        FogIsland f = new FogIsland();
        island(f, from(0, 0, 1, 1), 0, 0, 0, 0);
        island(f, from(31, 1, 32, 2), 0, 0, 0, 0);
        f.feed(1, 0, 0, 0, 0);
        due("x 0, y 0", f.check(0, 5), 5);
        f.feed(0, LEAST, 0, 0, 0);
        due("x 31, y 1", f.check(1, 5), 5);
        f.feed(LEAST, 0, 0, 0, 0);
        due("x 31 in place of x 0", f.check(0, 5), 0);
        f.feed(0x01000000, 0, 0, 0, 0);
        due("the lowest byte comes last", f.check(0, 5), 0);
    }

    private static void checkEmptiesTheTape() {
        says(26, "CHECK of a COAST by the first n numbers of the tape (four bytes each; empty then)");
        FogIsland f = withSquare();
        feedSquare(f, 0, 0);
        f.check(0, 32);
        due("behind a right one", f.count(3), 0);
        feedSquare(f, 0, 1);
        f.check(0, 32);
        due("behind a wrong one", f.count(3), 0);
        f.feed(0, 0, 0, 0, 0);
        f.check(0, 0);
        due("behind none asked", f.count(3), 0);
    }
}
