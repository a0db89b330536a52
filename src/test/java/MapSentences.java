import java.util.Arrays;

/** Sentences on what the coasts that fit tell together: promises 20 to 25 and 27, with their terms. */
final class MapSentences extends Sentences {
    private MapSentences() {
    }

    static void all() {
        sureCells();
        choices();
        nextRefused();
        nextAnswers();
        nextOfLikeOnes();
        aheadRefused();
        aheadAnswers();
        wayArguments();
        wayTies();
        waySteps();
        wayNone();
        pools();
        counts();
    }

    private static FogIsland withThree() {
        FogIsland f = withSquare();
        f.push(0, 1, 5);
        f.push(0, 1, -5);
        return f;
    }

    private static FogIsland squareWithChoice() {
        FogIsland f = withSquare();
        f.line(0, 0, 0, 0, 0);
        f.choice(0, 0, 0, 0);
        return f;
    }

    /** An island of cliffs all round, where the square lies. */
    private static FogIsland withCliffs() {
        FogIsland f = new FogIsland();
        island(f, from(10, 10, 20, 20), 0, 0, 0, 0);
        return f;
    }

    private static FogIsland squareAt(int x, int y) {
        FogIsland f = withSquare();
        f.box(x, y, x, y);
        f.line(0, 0, 0, 0, 0);
        return f;
    }

    // ---- promise 20 ----

    private static void sureCells() {
        says(20, "-3: no such ones");
        bounds("sure", MapSentences::withThree, (f, a) -> f.sure(a[0], a[1], a[2]), -3, new int[] {0, 0, 0},
            range(0, 31), range(0, 31), range(0, 2));
        says(20, "Of a CELL what 0: 0 SURELY LAND, 1 SURELY WATER, 2 neither; 1 the COAST in which it is LAND, 2 in which WATER (NONE: none)");
        FogIsland f = withThree();
        // LAND in all, in none, in COAST 1 alone, in COASTS 0 and 1: the answers of all three whats.
        int[][] cells = {{14, 15, 0, 0, -1}, {25, 15, 1, -1, 0}, {24, 15, 2, 1, 0}, {20, 15, 2, 1, 0}, {19, 15, 2, 0, 2}, {15, 15, 2, 0, 2}, {9, 15, 1, -1, 0}};
        for (int[] c : cells) {
            for (int what = 0; what < 3; what++) {
                due("sure(" + c[0] + ", " + c[1] + ", " + what + ")", f.sure(c[0], c[1], what), c[2 + what]);
            }
        }
        says(20, "SURELY LAND is a CELL that is so in all COASTS that FIT, SURELY WATER likewise;");
        f.box(22, 15, 22, 15);
        f.line(0, 0, 0, 0, 0);
        due("COAST 1 does not FIT", f.count(8), 5);
        due("LAND in COAST 1 alone", f.sure(24, 15, 0), 1);
        due("LAND in COAST 0 alone", f.sure(17, 15, 0), 2);
        says(20, "else the lowest that FITS in which it is LAND, and in which WATER.");
        FogIsland g = withThree();
        g.push(1, 0, 1);
        // COASTS 0 and 2 are LAND at 12, 10; 1 too; 3 is not: then none but COAST 3 FITS.
        due("LAND in the lowest", g.sure(12, 10, 1), 0);
        g.box(12, 10, 12, 10);
        g.line(0, 0, 0, 0, 0);
        due("the lowest of those that FIT: LAND", g.sure(24, 15, 1), 3);
        due("the lowest of those that FIT: WATER", g.sure(0, 0, 2), 3);
        due("none", g.sure(0, 0, 1), -1);
        sureWithoutCoasts();
    }

    private static void sureWithoutCoasts() {
        says(20, "-2: no COAST FITS");
        FogIsland f = new FogIsland();
        for (int what = 0; what < 3; what++) {
            due("no COAST", f.sure(0, 0, what), -2);
        }
        allLand(f);
        due("an empty LOG", f.sure(0, 0, 0), 0);
        f.line(0, 0, 0, 0, 0);
        for (int what = 0; what < 3; what++) {
            due("none FITS", f.sure(31, 31, what), -2);
        }
        due("no such CELL, and none FITS", f.sure(32, 0, 0), -3);
        due("no such what, and none FITS", f.sure(0, 0, 3), -3);
        f.back();
        due("it FITS again", f.sure(0, 0, 0), 0);
    }

    // ---- promise 21 ----

    private static void choices() {
        says(21, "false: no such ones");
        bounds("choice", FogIsland::new, (f, a) -> asInt(f.choice(a[0], a[1], a[2], a[3])), 0, new int[] {0, 0, 0, 0},
            range(0, 5), range(-9, 9), range(-9, 9), range(0, 3));
        says(21, "CHOICES 0 to 5: a SHOUT behind a MOVE (dx, dy: -9 to 9, no DRIFT) in a DIRECTION.");
        FogIsland f = squareAt(9, 9);
        due("CHOICE 0", f.choice(0, -9, 9, 3), true);
        due("CHOICE 5", f.choice(5, 9, -9, 0), true);
        due("both told", f.count(7), 33);
        FogIsland g = squareAt(15, 0);
        g.choice(2, 0, 9, 0);
        due("behind 9 up, one below the CLIFF", g.next(2), 2);
        FogIsland h = squareAt(24, 24);
        h.choice(2, -9, 0, 2);
        due("behind 9 to the left", h.next(1) * 100 + h.next(2), 100);
        h.choice(2, -4, -9, 3);
        due("behind 4 and 9, beside the BEACH", h.next(1) * 100 + h.next(2), 100);
        says(21, "A CHOICE (in place of the one before): true");
        g.choice(2, 0, 8, 0);
        due("one lower", g.next(2), 4);
        due("told as before", g.count(7), 4);
        due("refused", g.choice(2, 0, 10, 0), false);
        due("the one before stays", g.next(2), 4);
        due("refused", g.choice(6, 0, 0, 0), false);
        due("told as before", g.count(7), 4);
    }

    // ---- promise 22 ----

    private static void nextRefused() {
        says(22, "NONE: no such what");
        bounds("next", MapSentences::squareWithChoice, (f, a) -> f.next(a[0]), -1, new int[] {0}, range(0, 3));
        due("no such what, and no LINE", new FogIsland().next(4), -1);
        says(22, "-2 also: no CHOICE, no LINE, no STATES");
        FogIsland f = withSquare();
        for (int what = 0; what <= 3; what++) {
            due("no CHOICE and no LINE", f.next(what), -2);
        }
        f.choice(5, 0, 0, 0);
        for (int what = 0; what <= 3; what++) {
            due("no LINE", f.next(what), -2);
        }
        f.line(0, 0, 0, 0, 0);
        int[] want = {5, 824, 0, 924};
        for (int what = 0; what <= 3; what++) {
            due("next(" + what + ")", f.next(what), want[what]);
        }
        f.box(15, 15, 15, 15);
        for (int what = 0; what <= 3; what++) {
            due("no STATES", f.next(what), -2);
        }
        FogIsland g = withSquare();
        g.line(0, 0, 0, 0, 0);
        FogIsland h = new FogIsland();
        h.line(0, 0, 0, 0, 0);
        h.choice(0, 0, 0, 0);
        for (int what = 0; what <= 3; what++) {
            due("no CHOICE", g.next(what), -2);
            due("no COAST", h.next(what), -2);
        }
    }

    private static void nextAnswers() {
        says(22, "ANSWERS of a STATE: the count of its ECHO, if it comes or may come; 0, if it does not or may not;");
        // A CELL, a DIRECTION, the most STATES with one ANSWER, the WORST ANSWER.
        int[][] one = {{15, 5, 0, 1, 10}, {15, 9, 0, 1, 2}, {15, 25, 2, 1, 0}, {25, 15, 3, 1, 0}, {0, 0, 2, 1, 0}, {0, 15, 1, 1, 20}};
        for (int[] o : one) {
            FogIsland f = squareAt(o[0], o[1]);
            f.choice(0, 0, 0, o[2]);
            due(Arrays.toString(o) + " most", f.next(1), o[3]);
            due(Arrays.toString(o) + " worst", f.next(2), o[4]);
        }
        FogIsland u = withSquare();
        u.box(15, 25, 15, 26);
        u.line(0, 0, 0, 0, 0);
        u.choice(0, 0, 0, 2);
        due("two above what is UNKNOWN: both may hear nothing", u.next(1) * 100 + u.next(2), 200);
        FogIsland wall = new FogIsland();
        island(wall, from(0, 31, 32, 32), 0, 0, 0, 0);
        wall.box(5, 0, 5, 0);
        wall.line(0, 0, 0, 0, 0);
        wall.choice(0, 0, 0, 0);
        due("the farthest ECHO", wall.next(2), 62);
        says(22, "none, if one would not be on WATER then.");
        int[][] off = {{0, 5, -1, 0}, {31, 5, 1, 0}, {5, 0, 0, -1}, {5, 31, 0, 1}, {9, 15, 1, 0}, {20, 15, -1, 0}, {15, 9, 0, 1}, {15, 20, 0, -1}, {31, 31, 9, 9}};
        for (int[] o : off) {
            FogIsland f = squareAt(o[0], o[1]);
            f.choice(0, o[2], o[3], 0);
            due(Arrays.toString(o) + " most", f.next(1), 0);
            due(Arrays.toString(o) + " worst", f.next(2), -2);
            due(Arrays.toString(o) + " STATES", f.next(3), 1);
            due(Arrays.toString(o) + " which", f.next(0), 0);
        }
        int[][] on = {{1, 5, -1, 0}, {30, 5, 1, 0}, {5, 1, 0, -1}, {5, 30, 0, 1}, {8, 15, 1, 0}, {21, 15, -1, 0}, {15, 8, 0, 1}, {15, 21, 0, -1}, {22, 22, 9, 9}};
        for (int[] o : on) {
            FogIsland f = squareAt(o[0], o[1]);
            f.choice(0, o[2], o[3], 0);
            due(Arrays.toString(o) + " most", f.next(1), 1);
        }
        says(22, "2 the WORST ANSWER (-2: none has one), 3 how many STATES there are now");
        FogIsland now = squareAt(0, 0);
        now.choice(0, -1, 0, 0);
        due("none has one", now.next(2), -2);
        now.line(3, 3, 1, 0, 0);
        due("at the last LINE", now.next(3), 9);
        says(22, "NOW: the last LINE; STATES: of each COAST that FITS its CELLS POSSIBLE there.");
        now.push(0, 0, 1);
        due("in both COASTS", now.next(3), 18);
        allLand(now);
        due("a COAST that does not FIT has none", now.next(3), 18);
        noLand(now);
        due("in three COASTS", now.next(3), 27);
        FogIsland once = withSquare();
        once.line(0, 0, 0, 0, 0);
        once.wrong(3);
        due("all WATER CELLS", once.possible(0, 0), 924);
        once.wrong(0);
        once.box(5, 31, 5, 31);
        once.choice(0, 0, -9, 0);
        due("none but the one of the highest row", once.next(1), 1);
    }

    private static void nextOfLikeOnes() {
        says(22, "THE BEST CHOICE: by which most STATES with one and the same ANSWER are fewest (of like ones the lowest);");
        FogIsland f = withSquare();
        f.box(15, 0, 15, 9);
        f.line(0, 0, 0, 0, 0);
        f.choice(4, 0, 0, 0);
        due("the only one", f.next(0), 4);
        f.choice(1, 0, 0, 0);
        due("of like ones the lowest", f.next(0), 1);
        f.choice(0, 0, 0, 2);
        due("a worse one, lower", f.next(0), 1);
        f.choice(5, 0, -9, 0);
        due("a like one, higher", f.next(0) * 100 + f.next(1), 101);
        f.choice(5, 0, 9, 2);
        due("one by which all fall away but one, none better", f.next(0), 1);
        f.choice(3, 9, 9, 1);
        due("as many with one ANSWER as there are STATES", f.next(0), 1);
        says(22, "the WORST ANSWER: that of most STATES (of like ones the least).");
        due("2, 4 .. 20 once each", f.next(2), 2);
        f.box(15, 0, 16, 4);
        due("12 .. 20 twice each", f.next(1) * 100 + f.next(2), 212);
        FogIsland g = withSquare();
        onlyAt(g, 15, 5, 16, 5, 15, 7, 16, 7, 15, 8);
        g.choice(0, 0, 0, 0);
        due("6 and 10 twice, 4 once", g.next(1) * 100 + g.next(2), 206);
        FogIsland h = withSquare();
        onlyAt(h, 15, 5, 16, 5, 0, 7);
        h.choice(0, 0, 0, 0);
        due("10 twice, 0 once", h.next(2), 10);
        says(22, "THE BEST CHOICE, what 0 which, 1 the most STATES with one ANSWER");
        h.choice(5, 0, 0, 1);
        due("0 twice and more", h.next(0) * 100 + h.next(1), 2);
    }

    // ---- promise 23 ----

    private static void aheadRefused() {
        says(23, "NONE: no such what");
        bounds("ahead", MapSentences::squareWithChoice, (f, a) -> f.ahead(a[0]), -1, new int[] {0}, range(0, 1));
        due("no such what, and no LINE", new FogIsland().ahead(2), -1);
        says(23, "-2: as next()");
        FogIsland f = withSquare();
        due("no CHOICE and no LINE", f.ahead(0) + f.ahead(1), -4);
        f.choice(5, 0, 0, 0);
        due("no LINE", f.ahead(0) + f.ahead(1), -4);
        f.line(0, 0, 0, 0, 0);
        due("some STATES", f.ahead(0) * 1000 + f.ahead(1), 5824);
        f.box(15, 15, 15, 15);
        due("no STATES", f.ahead(0) + f.ahead(1), -4);
        FogIsland g = withSquare();
        g.line(0, 0, 0, 0, 0);
        due("no CHOICE", g.ahead(0) + g.ahead(1), -4);
        FogIsland h = new FogIsland();
        h.line(0, 0, 0, 0, 0);
        h.choice(0, 0, 0, 0);
        due("no COAST", h.ahead(0) + h.ahead(1), -4);
    }

    private static void aheadAnswers() {
        says(23, "TWO AHEAD: a CHOICE and, by its ANSWER, a second one (from where one is behind the first, with those STATES alone): "
            + "the most STATES that stay are fewest;");
        aheadByAnswer();
        aheadFromBehindTheFirst();
        says(23, "of like ones the lowest first CHOICE.");
        FogIsland f = withSquare();
        f.box(15, 0, 15, 9);
        f.line(0, 0, 0, 0, 0);
        f.choice(4, 0, 0, 0);
        f.choice(2, 0, 0, 0);
        due("two like ones", f.ahead(0), 2);
        f.choice(0, 0, 0, 2);
        due("a lower one that tells nothing as first, but then the second tells", f.ahead(0) * 100 + f.ahead(1), 1);
        says(23, "TWO AHEAD, what 0 the first CHOICE, 1 the most STATES that stay");
        FogIsland g = withSquare();
        g.box(15, 22, 15, 23);
        g.line(0, 0, 0, 0, 0);
        g.choice(3, 0, 0, 2);
        due("what is UNKNOWN may keep silent twice", g.ahead(0) * 100 + g.ahead(1), 302);
        FogIsland h = withSquare();
        onlyAt(h, 15, 9, 16, 9, 0, 0);
        h.choice(0, 0, 0, 3);
        h.choice(1, 0, 0, 0);
        due("0 first, then 0 once and 2 twice", h.ahead(0) * 100 + h.ahead(1), 2);
    }

    private static void aheadByAnswer() {
        // Up tells the pair below the island from the one beside it; then the one is told apart by CHOICE 1 alone,
        // the other by CHOICE 2 alone. CHOICE 2 first does as well, CHOICE 1 first does not.
        FogIsland f = withCliffs();
        onlyAt(f, 11, 5, 12, 5, 26, 8, 27, 8);
        f.choice(0, 0, 0, 0);
        f.choice(1, -5, 9, 1);
        f.choice(2, 0, 4, 3);
        due("a second one for each ANSWER", f.ahead(0) * 100 + f.ahead(1), 1);
        due("one alone leaves two", f.next(1), 2);
    }

    private static void aheadFromBehindTheFirst() {
        for (int dx = 1; dx <= 9; dx++) {
            FogIsland f = squareAt(21, 0);
            f.choice(0, dx, 0, 0);
            due("twice " + dx + " from 21", f.ahead(1), 21 + 2 * dx <= 31 ? 1 : 0);
        }
        says(23, "(STATES without an ANSWER fall away.)");
        int[][] off = {{0, 5, -1, 0, 0}, {1, 5, -1, 0, 0}, {2, 5, -1, 0, 1}, {31, 5, 1, 0, 0}, {30, 5, 1, 0, 0}, {29, 5, 1, 0, 1}, {5, 1, 0, -1, 0}, {5, 2, 0, -1, 1},
            {5, 30, 0, 1, 0}, {5, 29, 0, 1, 1}, {8, 15, 1, 0, 0}, {7, 15, 1, 0, 1}, {9, 15, 9, 0, 0}, {15, 5, 0, 9, 0}, {15, 8, 0, 1, 0}, {15, 7, 0, 1, 1}, {2, 2, 9, 0, 1}};
        for (int[] o : off) {
            FogIsland f = squareAt(o[0], o[1]);
            f.choice(0, o[2], o[3], 0);
            due("twice by " + Arrays.toString(o), f.ahead(1), o[4]);
        }
    }

    // ---- promise 24 ----

    private static void wayArguments() {
        says(24, "NONE: no such ones, no such step.");
        bounds("wayIn", MapSentences::withThree, (f, a) -> f.wayIn(a[0], a[1], a[2], a[3], a[4]), -1, new int[] {0, 0, 31, 31, 0},
            range(0, 31), range(0, 31), range(0, 31), range(0, 31), range(-1, 100));
        FogIsland f = withSquare();
        due("the last step", f.wayIn(0, 0, 5, 0, 4), 1);
        due("no such step", f.wayIn(0, 0, 5, 0, 5), -1);
        due("no such step", f.wayIn(0, 0, 5, 0, 99), -1);
        due("steps", f.wayIn(0, 0, 5, 0, 100), 5);
        due("no such what", f.wayIn(0, 0, 5, 0, 101), -1);
        due("no such what", f.wayIn(0, 0, 5, 0, -2), -1);
        says(24, "(One and the same CELL: 0, 0.)");
        due("TURNS", f.wayIn(7, 7, 7, 7, -1), 0);
        due("steps", f.wayIn(7, 7, 7, 7, 100), 0);
        due("no step 0", f.wayIn(7, 7, 7, 7, 0), -1);
        due("no step 99", f.wayIn(7, 7, 7, 7, 99), -1);
        due("behind another way", f.wayIn(0, 0, 5, 5, -1) * 10 + f.wayIn(7, 7, 7, 7, -1), 10);
        due("the ends of the CELLS", f.wayIn(31, 31, 31, 31, 100), 0);
    }

    private static void wayTies() {
        says(24, "THE WAY IN from a CELL to another one: over CELLS that are SURELY WATER, by DIRECTIONS: fewest TURNS, then fewest steps;");
        FogIsland f = new FogIsland();
        island(f, from(8, 6, 10, 32), 0, 0, 0, 0);
        due("below it: TURNS", f.wayIn(7, 10, 15, 10, -1), 2);
        due("below it: steps", f.wayIn(7, 10, 15, 10, 100), 5 + 8 + 5);
        island(f, from(12, 4, 13, 6), 0, 0, 0, 0);
        // Past the second land with four turns it would still be 18 steps.
        due("below both: TURNS", f.wayIn(7, 10, 15, 10, -1), 2);
        due("below both: steps", f.wayIn(7, 10, 15, 10, 100), 7 + 8 + 7);
        FogIsland g = withSquare();
        due("past the nearer end", g.wayIn(13, 5, 13, 25, 0) * 100 + g.wayIn(13, 5, 13, 25, 100), 3 * 100 + 28);
        due("past the other end", g.wayIn(16, 5, 16, 25, 0) * 100 + g.wayIn(16, 5, 16, 25, 100), 100 + 28);
        due("the first way again", g.wayIn(13, 5, 13, 25, 100), 28);
        due("another start, the same end", g.wayIn(13, 4, 13, 25, 100), 29);
        due("the same start, another end", g.wayIn(13, 4, 13, 24, 100), 28);
        FogIsland ring = new FogIsland();
        island(ring, from(1, 1, 31, 31), 0, 0, 0, 0);
        // Round each end of the CELLS: from, to, the first DIRECTION and the second one.
        int[][] ends = {{0, 5, 5, 0, 2, 1}, {5, 0, 0, 5, 3, 0}, {26, 0, 31, 5, 1, 0}, {31, 5, 26, 0, 2, 3}, {31, 26, 26, 31, 0, 3}, {26, 31, 31, 26, 1, 2},
            {5, 31, 0, 26, 3, 2}, {0, 26, 5, 31, 0, 1}};
        for (int[] e : ends) {
            due(Arrays.toString(e) + " steps", ring.wayIn(e[0], e[1], e[2], e[3], 100), 10);
            due(Arrays.toString(e) + " TURNS", ring.wayIn(e[0], e[1], e[2], e[3], -1), 1);
            for (int i = 0; i < 10; i++) {
                due(Arrays.toString(e) + " step " + i, ring.wayIn(e[0], e[1], e[2], e[3], i), i < 5 ? e[4] : e[5]);
            }
        }
        says(24, "of like ones the least row of DIRECTIONS.");
        int[][] ties = {{0, 0, 5, 5, 0, 1}, {5, 5, 0, 0, 2, 3}, {0, 5, 5, 0, 1, 2}, {5, 0, 0, 5, 0, 3}};
        for (int[] t : ties) {
            due(Arrays.toString(t) + " first", g.wayIn(t[0], t[1], t[2], t[3], 0), t[4]);
            due(Arrays.toString(t) + " then", g.wayIn(t[0], t[1], t[2], t[3], 5), t[5]);
            due(Arrays.toString(t) + " TURNS", g.wayIn(t[0], t[1], t[2], t[3], -1), 1);
        }
        FogIsland h = new FogIsland();
        island(h, from(10, 10, 21, 21), 0, 0, 0, 0);
        due("past both ends alike: up and down", h.wayIn(9, 15, 21, 15, 0) * 100 + h.wayIn(9, 15, 21, 15, 100), 12 + 12);
        due("past both ends alike: left and right", h.wayIn(15, 9, 15, 21, 0) * 100 + h.wayIn(15, 9, 15, 21, 100), 100 + 12 + 12);
    }

    /** Walls with one row left open, above and below in turn: the first so many of four. */
    private static FogIsland withWalls(int n) {
        FogIsland f = new FogIsland();
        for (int i = 0; i < n; i++) {
            int x = 4 + 5 * i;
            island(f, i % 2 == 0 ? from(x, 0, x + 1, 31) : from(x, 1, x + 1, 32), 0, 0, 0, 0);
        }
        return f;
    }

    private static void waySteps() {
        says(24, "THE WAY IN, what NONE TURNS, 100 steps, else the DIRECTION of step what (0 to 99)");
        FogIsland f = withWalls(2);
        due("99 steps", f.wayIn(0, 0, 31, 6, 100), 99);
        due("their TURNS", f.wayIn(0, 0, 31, 6, -1), 4);
        due("the last of 99", f.wayIn(0, 0, 31, 6, 98), 0);
        due("no hundredth", f.wayIn(0, 0, 31, 6, 99), -1);
        due("100 steps", f.wayIn(0, 0, 31, 7, 100), 100);
        due("the last of 100", f.wayIn(0, 0, 31, 7, 99), 0);
        due("101 steps", f.wayIn(0, 0, 31, 8, 100), 101);
        due("step 99 of them", f.wayIn(0, 0, 31, 8, 99), 0);
        FogIsland g = withWalls(4);
        due("more steps than can be told", g.wayIn(0, 0, 31, 0, 100), 4 * 31 + 31);
        due("their TURNS", g.wayIn(0, 0, 31, 0, -1), 7);
        // Right before down: as far as the next wall; up before right: just behind a wall.
        int[][] steps = {{0, 0}, {30, 0}, {31, 1}, {38, 1}, {39, 2}, {69, 2}, {70, 1}, {71, 1}, {72, 0}, {99, 0}};
        for (int[] s : steps) {
            due("step " + s[0], g.wayIn(0, 0, 31, 0, s[0]), s[1]);
        }
        due("no such what", g.wayIn(0, 0, 31, 0, 101), -1);
    }

    private static void wayNone() {
        says(24, "-2: there is none (one of both is not SURELY WATER, no COAST FITS)");
        FogIsland f = withSquare();
        f.push(0, 1, 3);
        // LAND in both, and in COAST 1 alone.
        for (int x : new int[] {15, 22}) {
            for (int what : new int[] {-1, 0, 99, 100}) {
                due("from " + x, f.wayIn(x, 15, 0, 0, what), -2);
                due("to " + x, f.wayIn(0, 0, x, 15, what), -2);
                due("at " + x, f.wayIn(x, 15, x, 15, what), -2);
            }
        }
        due("beside it", f.wayIn(23, 15, 23, 15, -1), 0);
        FogIsland wall = new FogIsland();
        island(wall, from(10, 0, 11, 32), 0, 0, 0, 0);
        FogIsland none = new FogIsland();
        FogIsland land = new FogIsland();
        allLand(land);
        land.line(0, 0, 0, 0, 0);
        for (int what : new int[] {-1, 0, 99, 100}) {
            due("a wall between", wall.wayIn(9, 5, 11, 5, what), -2);
            due("a wall between, from row to row", wall.wayIn(31, 5, 0, 6, what), -2);
            due("no COAST", none.wayIn(0, 0, 0, 0, what), -2);
            due("none FITS", land.wayIn(0, 0, 0, 0, what), -2);
        }
        due("no such what, and none", none.wayIn(0, 0, 0, 0, 101), -1);
        says(24, "over CELLS that are SURELY WATER");
        wall.box(10, 5, 10, 5);
        noLand(wall);
        wall.line(0, 0, 0, 0, 0);
        due("the wall does not FIT", wall.count(8), 2);
        due("through where it was", wall.wayIn(9, 5, 11, 5, 100), 2);
    }

    // ---- promise 25 ----

    private static void pools() {
        says(25, "NONE: no such ones");
        bounds("pool", MapSentences::withThree, (f, a) -> f.pool(a[0], a[1], a[2]), -1, new int[] {0, 0, 0},
            range(0, 31), range(0, 31), range(0, 2));
        poolsOfAllSizes();
        poolEdges();
        poolWall();
        says(25, "-2: no COAST FITS");
        FogIsland f = new FogIsland();
        for (int what = 0; what < 3; what++) {
            due("no COAST", f.pool(0, 0, what), -2);
        }
        due("no such CELL, and no COAST", f.pool(32, 0, 0), -1);
        due("no such what, and no COAST", f.pool(0, 0, 3), -1);
        allLand(f);
        f.line(0, 0, 0, 0, 0);
        for (int what = 0; what < 3; what++) {
            due("none FITS", f.pool(0, 0, what), -2);
        }
    }

    private static void poolsOfAllSizes() {
        says(25, "THE POOL of a CELL: how many CELLS can be come to so;");
        FogIsland f = new FogIsland();
        noLand(f);
        due("all CELLS", f.pool(31, 31, 0), 1024);
        due("no WALL", f.pool(31, 31, 1) + f.pool(31, 31, 2), 0);
        FogIsland g = new FogIsland();
        allLand(g);
        says(25, "Of a CELL what 0 THE POOL (0: it is not SURELY WATER), 1 THE WALL, 2 of it how many may be WATER");
        due("none", g.pool(31, 31, 0), 0);
        due("no WALL", g.pool(31, 31, 1) + g.pool(31, 31, 2), 0);
        FogIsland h = new FogIsland();
        // The ring crosses itself, and leaves one CELL of WATER in the LAND, at a corner of the WATER outside.
        coast(h, 0, 0, 8, 0, 8, 8, 2, 8, 2, 4, 3, 4, 3, 5, 0, 5, 0, 0, 0, 0, 0, 0, 0, 0);
        due("one CELL", h.pool(2, 4, 0), 1);
        due("its WALL", h.pool(2, 4, 1), 4);
        due("beside it, across a corner", h.pool(1, 5, 0), 1024 - 57 - 1);
        due("on LAND beside it", h.pool(1, 4, 0), 0);
    }

    private static void poolEdges() {
        says(25, "how many CELLS can be come to so");
        FogIsland f = new FogIsland();
        island(f, from(10, 0, 11, 32), 0, 0, 0, 0);
        due("left of a wall", f.pool(9, 5, 0), 320);
        due("right of it, not round the edge", f.pool(11, 5, 0), 672);
        FogIsland g = new FogIsland();
        island(g, from(0, 10, 32, 11), 0, 0, 0, 0);
        due("below a wall", g.pool(5, 9, 0), 320);
        due("above it, not round the edge", g.pool(5, 11, 0), 672);
        FogIsland h = withWalls(4);
        due("round four walls", h.pool(0, 0, 0), 1024 - 4 * 31);
    }

    private static void poolWall() {
        says(25, "THE WALL: how many CELLS beside THE POOL are not SURELY WATER; of them may be WATER how many.");
        FogIsland f = new FogIsland();
        island(f, from(5, 5, 6, 6), 0, 0, 0, 0);
        due("one CELL from all sides", f.pool(0, 0, 1), 1);
        due("it is LAND", f.pool(0, 0, 2), 0);
        f.push(0, 1, 1);
        due("with one that may be WATER", f.pool(0, 0, 1) * 10 + f.pool(0, 0, 2), 21);
        due("a CELL of THE WALL", f.pool(6, 5, 0) + f.pool(6, 5, 1) + f.pool(6, 5, 2), 0);
        FogIsland g = withSquare();
        due("round the square, its inside not", g.pool(0, 0, 1), 36);
        FogIsland corners = new FogIsland();
        island(corners, from(0, 0, 1, 1), 0, 0, 0, 0);
        island(corners, from(31, 31, 32, 32), 0, 0, 0, 0);
        due("at the ends of the CELLS", corners.pool(5, 5, 1) * 10 + corners.pool(5, 5, 2), 22);
        FogIsland wall = new FogIsland();
        island(wall, from(10, 0, 12, 32), 0, 0, 0, 0);
        due("of one side alone", wall.pool(5, 5, 1), 32);
        due("of the other side", wall.pool(31, 5, 1), 32);
    }

    // ---- promise 27 ----

    private static void counts() {
        says(27, "NONE for others.");
        FogIsland f = withSquare();
        for (int what : new int[] {-1, 9, 11, 17, 18, 19, 32, 266, 10 + 65536, -10, LEAST, MOST, LEAST + 10, LEAST + 9}) {
            due("count(" + what + ")", f.count(what), -1);
        }
        says(27, "10 + c CORNERS of COAST c.");
        FogIsland g = new FogIsland();
        for (int c = 0; c < 8; c++) {
            int n = c == 7 ? 16 : 4 + 2 * (c % 7);
            due("COAST " + c, coast(g, stairs(n)), c);
            due("its CORNERS", g.count(10 + c), n);
            due("the next one's", g.count(11 + c), -1);
        }
        due("count(9)", g.count(9), -1);
        says(27, "8 COASTS that FIT (bits)");
        due("all eight", g.count(8), 255);
        g.box(0, 0, 0, 0);
        g.line(0, 0, 0, 0, 0);
        due("none", g.count(8), 0);
        g.box(1, 0, 1, 0);
        due("COAST 0, whose LAND is one CELL", g.count(8), 1);
        countsOfAll();
    }

    private static void countsOfAll() {
        says(27, "0 COASTS, 1 SOUNDERS, 2 CLAUSES, 3 bytes of the tape, 4 LINES, 5 NOTES of the last LINE (NONE: no LINE), 6 how many may be WRONG, 7 told CHOICES (bits)");
        FogIsland f = new FogIsland();
        due("no LINE", f.count(5), -1);
        for (int i = 0; i < 8; i++) {
            noLand(f);
            f.sounder(0, 0, 0, 0);
        }
        law(f, "v0(0=0);".repeat(11) + "v0(0=0)");
        for (int i = 0; i < 13; i++) {
            f.line(0, 0, 0, 0, 0);
            f.feed(0, 0, 0, 0, 0);
        }
        due("a LINE without NOTES", f.count(5), 0);
        for (int i = 0; i < 7; i++) {
            f.hears(0, 0, 0);
            f.choice(i, 0, 0, 0);
            f.wrong(i);
        }
        int[] full = {8, 6, 12, 220, 12, 6, 3, 63, 255};
        for (int what = 0; what < full.length; what++) {
            due("full: count(" + what + ")", f.count(what), full[what]);
        }
    }
}
