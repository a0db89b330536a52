/** For each promise of the document its ordinary answers, its edges and its refusals, reckoned by hand. */
public final class PromiseTests extends Worlds {
    private static int wrong = 0;
    private static int asked = 0;
    private static String promise = "";

    private static void due(String what, long got, long want) {
        asked++;
        if (got != want) {
            wrong++;
            System.out.println(promise + ": " + what + " answered " + got + ", due is " + want);
        }
    }

    private static void due(String what, boolean got, boolean want) {
        due(what, got ? 1 : 0, want ? 1 : 0);
    }

    public static void main(String[] args) {
        newObject();
        feeding();
        coasts();
        lawFaults();
        lawLevels();
        lawRefused();
        pushing();
        landCells();
        facings();
        sounders();
        levels();
        lines();
        hearing();
        echoes();
        goingBack();
        wrongNotes();
        boxes();
        fitting();
        badLines();
        possibleCells();
        sureCells();
        choices();
        nextShout();
        twoAhead();
        waysIn();
        pools();
        checks();
        counts();
        System.out.println(asked + " answers asked for, " + wrong + " not as due");
        if (wrong != 0) {
            System.exit(1);
        }
    }

    private static void newObject() {
        promise = "1 a new object";
        FogIsland f = new FogIsland();
        due("NONE", FogIsland.NONE, -1);
        int[] want = {0, 0, 0, 0, 0, -1, 0, 0, 0, -1, -1, -1};
        for (int what = 0; what < want.length; what++) {
            due("count(" + what + ")", f.count(what), want[what]);
        }
        island(f, from(10, 10, 12, 12), 0, 0, 0, 0);
        f.line(0, 0, 0, 0, 0);
        due("the box is all", f.possible(0, 0), 1020);
        FogIsland g = new FogIsland();
        due("nothing is shared with another object", g.count(0) + g.count(4), 0);
    }

    private static void feeding() {
        promise = "2 feed";
        FogIsland f = new FogIsland();
        for (int i = 1; i <= 11; i++) {
            due("feed " + i, f.feed(0, 0, 0, 0, 0), 20 * i);
        }
        due("feed beyond 220", f.feed(1, 1, 1, 1, 1), -1);
        due("the tape after it", f.count(3), 220);
        FogIsland g = new FogIsland();
        // The highest byte first: 0x76 v, 0x35 5, 0x28 (, 0x31 1; 0x3D =, 0x31 1, 0x29 )
        g.feed(0x76352831, 0x3D312900, -1, -1, -1);
        due("the bytes in their order", g.law(7), 1);
        due("the tape is empty then", g.count(3), 0);
    }

    private static void coasts() {
        promise = "3 coast";
        FogIsland f = new FogIsland();
        f.feed(0, 0, 0, 0, 0);
        for (int n : new int[] {-4, 0, 2, 3, 5, 15, 17, 18, Integer.MAX_VALUE, Integer.MIN_VALUE}) {
            due("coast(" + n + ")", f.coast(n), -1);
        }
        due("coast(8) of 20 bytes", f.coast(8), -1);
        due("the tape stays", f.count(3), 20);
        due("two corners in one place", f.coast(4), -1002);
        due("a fault empties the tape", f.count(3), 0);
        due("a fair one", coast(f, 0, 0, 32, 0, 32, 32, 0, 32, 0, 1, 2, 0), 0);
        due("the tape is empty", f.count(3), 0);
        due("x of corner 0", coast(f, 33, 99, 6, 2, 6, 6, 2, 6, 0, 0, 0, 0), -1000);
        due("y of corner 0", coast(f, 2, 33, 6, 2, 6, 6, 2, 6, 0, 0, 0, 0), -1001);
        due("a byte above 127", coast(f, 2, 2, 200, 2, 6, 6, 2, 6, 0, 0, 0, 0), -1002);
        due("x, before y, before going on", coast(f, 2, 2, 40, 40, 6, 6, 2, 6, 0, 0, 0, 0), -1002);
        due("y, before going on", coast(f, 2, 2, 2, 40, 6, 6, 2, 6, 0, 0, 0, 0), -1003);
        due("side 0 not along x", coast(f, 2, 2, 2, 6, 6, 6, 6, 2, 0, 0, 0, 0), -1002);
        due("side 1 not along y", coast(f, 2, 2, 6, 2, 8, 2, 2, 6, 0, 0, 0, 0), -1004);
        due("side 1 aslant", coast(f, 2, 2, 6, 2, 7, 6, 2, 6, 0, 0, 0, 0), -1004);
        due("a side of length 0", coast(f, 2, 2, 6, 2, 6, 2, 2, 6, 0, 0, 0, 0), -1004);
        due("the last does not go on", coast(f, 2, 2, 6, 2, 6, 6, 2, 7, 0, 0, 0, 0), -1006);
        due("the last does not close", coast(f, 2, 2, 6, 2, 6, 6, 3, 6, 0, 0, 0, 0), -1006);
        due("the last closes with length 0", coast(f, 2, 2, 6, 2, 6, 6, 4, 6, 4, 2, 2, 2, 0, 0, 0, 0, 0, 0), -1010);
        due("sort 3", coast(f, 2, 2, 6, 2, 6, 6, 2, 6, 0, 0, 0, 3), -1011);
        due("a corner before a sort", coast(f, 2, 2, 6, 2, 6, 6, 2, 33, 9, 9, 9, 9), -1007);
        due("none of these counts", f.count(0), 1);
        int[] comb = {0, 0, 9, 0, 9, 9, 8, 9, 8, 1, 7, 1, 7, 9, 6, 9, 6, 1, 5, 1, 5, 9, 4, 9, 4, 1, 3, 1, 3, 9, 0, 9};
        int[] bytes = new int[48];
        System.arraycopy(comb, 0, bytes, 0, 32);
        due("16 corners", coast(f, bytes), 1);
        due("its corners", f.count(11), 16);
        for (int i = 2; i < 8; i++) {
            due("coast " + i, island(f, from(2, 2, 6, 6), 0, 0, 0, 0), i);
        }
        f.feed(0x02020602, 0x06060206, 0, 0, 0);
        due("a ninth", f.coast(4), -1);
        due("the tape stays", f.count(3), 20);
    }

    private static void lawFaults() {
        promise = "4 law";
        FogIsland f = new FogIsland();
        f.feed(0, 0, 0, 0, 0);
        for (int n : new int[] {0, -1, 21, 161, Integer.MIN_VALUE, Integer.MAX_VALUE}) {
            due("law(" + n + ")", f.law(n), -1);
        }
        due("the tape stays", f.count(3), 20);
        due("a zero byte", f.law(1), -1000);
        due("the tape is empty", f.count(3), 0);
        due("one clause", law(f, "vb(1=1)"), 1);
        due("two", law(f, "v5(b<1|d>2&!n=0);v[b+1]*2/3%4-7(!(u<r)&(h=q|k>s))"), 2);
        due("CLAUSES", f.count(2), 2);
        String[] texts = {"x", "v", "vb", "vb(", "vb(b", "vb(b=", "vb(b=1", "vb(b=1)x", "vb(b=1);", "vb(b=1);x",
            "v(b=1)", "v-1(b=1)", "v[b(b=1)", "v[](b=1)", "vb(b)", "vb(b==1)", "vb()", "vb(!)", "vb(b=1&)", "vb(b=1||b=1)",
            "vb(b=1))", "vb b(b=1)", "vb(b<=1)", "v12b(b=1)", "vx(b=1)", "vb(((b=1)", "vb([b=1)", "vb(b=1]", "vv(b=1)", "vb(b=1!b=1)",
            "vb((b)=1)", "vb([b=1]=1)", "v" + (char) 233 + "(b=1)", "V5(1=1)", "v5(1=1)v5(1=1)", "v5(1&1=1)", "v5+(1=1)", "v5*(1=1)"};
        int[] place = {0, 1, 2, 3, 4, 5, 6, 7, 8, 8,
            1, 1, 3, 2, 4, 5, 3, 4, 7, 7,
            7, 2, 5, 3, 1, 9, 5, 6, 1, 6,
            5, 5, 1, 0, 7, 4, 3, 3};
        for (int i = 0; i < texts.length; i++) {
            due("law " + texts[i], law(f, texts[i]), -1000 - place[i]);
        }
        due("a fault leaves the law before", f.count(2), 2);
        due("five digits", law(f, "v99999(00000=0)"), 1);
        due("a sixth digit", law(f, "v999990(0=0)"), -2006);
        due("a sixth digit in C", law(f, "v5(0=123456x"), -2010);
        due("six open [", law(f, "v[[[[[[5]]]]]](0=0)"), 1);
        due("seven open [", law(f, "v[[[[[[[5]]]]]]](0=0)"), -5007);
        due("six open with the (", law(f, "v5((((((0=0))))))"), 1);
        due("seven open (", law(f, "v5(((((((0=0)))))))"), -5008);
        due("five ! in the (", law(f, "v5(!!!!!0=0)"), 1);
        due("six ! in the (", law(f, "v5(!!!!!!0=0)"), -5008);
        due("a ! ends with its piece", law(f, "v5(!!!!!0=0&!!!!!0=0|!!!!!0=0)"), 1);
        due("a ! is open in its piece", law(f, "v5(!!!!0=[0]&!!!!!0=[0])"), -5020);
        due("mixed", law(f, "v5(!(!([0]=0)))"), 1);
        due("mixed, too deep", law(f, "v5(!(!(![[0]]=0))))"), -5008);
        due("a seventh that can't stand there", law(f, "v5(!!!!!0("), -1009);
        StringBuilder twelve = new StringBuilder("v1(0=0)");
        for (int i = 0; i < 11; i++) {
            twelve.append(";v1(0=0)");
        }
        due("twelve clauses", law(f, twelve.toString()), 12);
        due("a 13th", law(f, twelve + ";v"), -4096);
        due("a 13th that is none", law(f, twelve + ";b"), -1096);
        due("a 13th that is lacking", law(f, twelve + ";"), -1096);
        due("behind the twelfth", law(f, twelve + "v"), -1095);
        due("twelve stay", f.count(2), 12);
        StringBuilder longest = new StringBuilder("v");
        for (int i = 0; i < 76; i++) {
            longest.append("1+");
        }
        due("160 bytes", law(f, longest + "23(0=0)"), 1);
    }

    private static int levelBy(String text) {
        FogIsland f = withSquare();
        f.sounder(3, 4, 2, 50);
        f.sounder(25, 15, 1, 40);
        int n = law(f, text);
        if (n < 1) {
            return n;
        }
        return f.level(0, 1, 5, 12, 7, 3);
    }

    private static void lawLevels() {
        promise = "4 and 9 what a law answers";
        String[] texts = {"vb(1=1)", "vk(1=1)", "vs(1=1)", "vh(1=1)", "vq(1=1)", "vd(1=1)", "vu(1=1)", "vr(1=1)", "vn(1=1)",
            "v2+3*4(1=1)", "v[2+3]*4(1=1)", "v90/4*4(1=1)", "v17%5*2(1=1)", "v9-4-3(1=1)", "v80/4/5(1=1)", "v99/[9/2](1=1)",
            "v5(1=2);v6(1=1);v7(1=1)", "v5(1=2)", "v100(1=1)", "v99(1=1)", "v0-1(1=1)", "v1(1<2&2>1)", "v1(1=2&1=1|1=1)",
            "v1(1=1|1=2&1=2)", "v1(!1=2)", "v1(!(1=1|1=2))", "v1(!1=2&!1=2)", "v1(!!1=1)", "v1((1=2|1=1)&1=1)",
            "v[0-7]/2+9(1=1)", "v[0-7]%4+9(1=1)", "v65536*65536+7(1=1)", "v46341*46341(1=1)", "v1(46341*46341<0)",
            "v1(1=2|1=2|1=1)", "v1(1=2|1=1|1=2)", "v1(1=1&1=1&1=2|1=2)", "v1(1=2&1=1&1=1|1=1&1=1)", "v007(1=1)",
            "v[[0-32768]*65536-1+1]/[0-1]+3(1=1)", "v1([0-32768]*65536/[0-1]<0)", "v9([0-32768]*65536%[0-1]=0)"};
        int[] want = {40, 1, 1, 7, 3, 23, 3, 20, 10,
            14, 20, 88, 4, 2, 4, 24,
            6, 0, 99, 99, 0, 1, 1,
            1, 1, 0, 1, 1, 1,
            6, 6, 7, 0, 1,
            1, 1, 0, 1, 7,
            0, 1, 9};
        for (int i = 0; i < texts.length; i++) {
            due(texts[i], levelBy(texts[i]), want[i]);
        }
    }

    private static void lawRefused() {
        promise = "4 and 9 what is divided by 0";
        String[] texts = {"v9/0(1=1)", "v9%0(1=1)", "v5+9/[1-1](1=1)", "v5(1/0=0);v6(1=1)", "v5(1%0=0|1=1);v6(1=1)",
            "v5(1=1|1/0=0);v6(1=1)", "v5(1=2&1/0=0|1=1);v6(1=1)", "v5(!1/0=0);v6(1=1)", "v5(!(1/0=0)|1=1);v6(1=1)",
            "v5(1=1&1/0=0|1=1);v6(1=1)", "v5([1/0]=0);v6(1=1)", "v1/0(1=2);v6(1=1)", "v1/0(1=1);v6(1=1)",
            "v5((1=1|1/0=0)&1=1);v6(1=1)", "v5(0*[1/0]=0);v6(1=1)", "v5((1=2&1/0=0)|1=1);v6(1=1)"};
        int[] want = {0, 0, 0, 6, 6, 5, 5, 6, 6, 6, 6, 6, 0, 5, 6, 5};
        for (int i = 0; i < texts.length; i++) {
            due(texts[i], levelBy(texts[i]), want[i]);
        }
    }

    private static void pushing() {
        promise = "5 push";
        FogIsland f = withSquare();
        int[][] none = {{1, 0, 1}, {-1, 0, 1}, {0, -1, 1}, {0, 4, 1}, {0, 0, 0}, {0, 0, 10}, {0, 0, -10}, {0, 0, Integer.MIN_VALUE}};
        for (int[] a : none) {
            due("push " + a[0] + " " + a[1] + " " + a[2], f.push(a[0], a[1], a[2]), -1);
        }
        due("side 0 up", f.push(0, 0, 3), 1);
        due("water below", f.land(1, 15, 12), 0);
        due("land above", f.land(1, 15, 13), 1);
        due("the old one stays", f.land(0, 15, 12), 1);
        due("side 3 left", f.push(0, 3, -2), 2);
        due("new land", f.land(2, 8, 15), 1);
        due("and no more", f.land(2, 7, 15), 0);
        due("the sorts stay", f.facing(2, 0, 15, 1, 1), 0);
        due("the sorts stay, beach", f.facing(2, 30, 15, 3, 1), 1);
        due("beyond the opposite side", f.push(1, 2, -9), 3);
        due("turned over", f.land(3, 15, 11), 1);
        due("turned over, above", f.land(3, 15, 13), 0);
        due("a side of length 0", f.push(1, 2, -7), -2);
        FogIsland g = new FogIsland();
        island(g, from(1, 2, 31, 30), 0, 0, 0, 0);
        due("to the edge x 0", g.push(0, 3, -1), 1);
        due("beyond x 0", g.push(0, 3, -2), -2);
        due("to the edge x 32", g.push(0, 1, 1), 2);
        due("beyond x 32", g.push(0, 1, 2), -2);
        due("to the edge y 0", g.push(0, 0, -2), 3);
        due("beyond y 0", g.push(0, 0, -3), -2);
        due("to the edge y 32", g.push(0, 2, 2), 4);
        due("beyond y 32", g.push(0, 2, 3), -2);
        due("5", g.push(0, 2, 1), 5);
        due("6", g.push(0, 2, 1), 6);
        due("7", g.push(0, 2, 1), 7);
        due("a ninth", g.push(0, 2, 1), -1);
        due("eight", g.count(0), 8);
    }

    private static void landCells() {
        promise = "6 land";
        FogIsland f = withSquare();
        int[][] none = {{1, 0, 0}, {-1, 0, 0}, {0, -1, 0}, {0, 32, 0}, {0, 0, -1}, {0, 0, 32}, {8, 0, 0}};
        for (int[] a : none) {
            due("land " + a[0] + " " + a[1] + " " + a[2], f.land(a[0], a[1], a[2]), -1);
        }
        due("lowest corner", f.land(0, 10, 10), 1);
        due("left of it", f.land(0, 9, 10), 0);
        due("below it", f.land(0, 10, 9), 0);
        due("highest corner", f.land(0, 19, 19), 1);
        due("right of it", f.land(0, 20, 19), 0);
        due("above it", f.land(0, 19, 20), 0);
        // A ring that crosses itself: what is gone round twice is water.
        due("a crossing ring", coast(f, 0, 0, 8, 0, 8, 8, 4, 8, 4, 4, 12, 4, 12, 12, 0, 12, 0, 0, 0, 0, 0, 0, 0, 0), 1);
        due("(2,2)", f.land(1, 2, 2), 1);
        due("(6,6)", f.land(1, 6, 6), 0);
        due("(10,6)", f.land(1, 10, 6), 1);
        due("(5,10)", f.land(1, 5, 10), 1);
        due("(10,2)", f.land(1, 10, 2), 0);
        due("all of it land", island(f, from(0, 0, 32, 32), 0, 0, 0, 0), 2);
        due("(31,31)", f.land(2, 31, 31), 1);
    }

    private static void facings() {
        promise = "7 facing";
        FogIsland f = withSquare();
        int[][] none = {{1, 0, 0, 0, 0}, {-1, 0, 0, 0, 0}, {0, -1, 0, 0, 0}, {0, 0, 32, 0, 0}, {0, 0, 0, 4, 0}, {0, 0, 0, -1, 0},
            {0, 0, 0, 0, 3}, {0, 0, 0, 0, -1}, {0, 15, 15, 0, 3}};
        for (int[] a : none) {
            due("facing " + a[1] + " " + a[2] + " " + a[3] + " " + a[4], f.facing(a[0], a[1], a[2], a[3], a[4]), -1);
        }
        due("on land", f.facing(0, 10, 10, 0, 0), -3);
        due("on land, sort", f.facing(0, 19, 19, 2, 1), -3);
        int[][] rows = {{15, 0, 0, 10, 0, 20}, {15, 9, 0, 1, 0, 2}, {15, 31, 2, 12, 2, 24}, {0, 15, 1, 10, 0, 20}, {31, 15, 3, 12, 1, 0},
            {20, 15, 3, 1, 1, 0}, {0, 9, 1, 0, -2, 0}, {0, 20, 1, 0, -2, 0}, {0, 10, 1, 10, 0, 20}, {15, 9, 2, 0, -2, 0}, {9, 15, 3, 0, -2, 0}};
        for (int[] a : rows) {
            for (int what = 0; what < 3; what++) {
                due("facing " + a[0] + " " + a[1] + " " + a[2] + " " + what, f.facing(0, a[0], a[1], a[2], what), a[3 + what]);
            }
        }
        // Sides 1 and 5 lie on one another from y 4 to 8, and side 3 too: the lowest number counts.
        FogIsland g = new FogIsland();
        due("sides on sides", coast(g, 0, 0, 8, 0, 8, 8, 2, 8, 2, 4, 8, 4, 8, 12, 0, 12, 0, 2, 0, 0, 0, 1, 0, 0), 0);
        due("(4,6) is water", g.land(0, 4, 6), 0);
        due("(1,6) is land", g.land(0, 1, 6), 1);
        due("no land beyond two sides", g.facing(0, 4, 6, 1, 0), 0);
        due("from the right below", g.facing(0, 12, 2, 3, 1), 2);
        due("from the right above", g.facing(0, 12, 10, 3, 1), 1);
        due("over the doubled side", g.facing(0, 12, 6, 3, 0), 11);
        due("its sort", g.facing(0, 12, 6, 3, 1), 0);
        // Three sides on one another (1, 5 and 9) between (8, 5) and (7, 5): number 1 is told.
        FogIsland h = new FogIsland();
        int three = coast(h, 0, 0, 8, 0, 8, 8, 6, 8, 6, 4, 8, 4, 8, 12, 4, 12, 4, 3, 8, 3, 8, 14, 0, 14,
            0, 1, 0, 0, 0, 2, 0, 0, 0, 0, 0, 0);
        due("three sides on one another", three, 0);
        due("from the right: steps", h.facing(0, 9, 5, 3, 0), 2);
        due("from the right: the lowest of three", h.facing(0, 9, 5, 3, 1), 1);
    }

    private static void sounders() {
        promise = "8 sounder";
        FogIsland f = new FogIsland();
        int[][] none = {{-1, 0, 0, 0}, {32, 0, 0, 0}, {0, -1, 0, 0}, {0, 32, 0, 0}, {0, 0, -1, 0}, {0, 0, 4, 0}, {0, 0, 0, -1}, {0, 0, 0, 100}};
        for (int[] a : none) {
            due("sounder " + a[0] + " " + a[1] + " " + a[2] + " " + a[3], f.sounder(a[0], a[1], a[2], a[3]), -1);
        }
        for (int i = 0; i < 6; i++) {
            due("sounder " + i, f.sounder(31 * (i & 1), 31, i & 3, 99), i);
        }
        due("a seventh", f.sounder(0, 0, 0, 0), -1);
        due("six", f.count(1), 6);
    }

    private static void levels() {
        promise = "9 level";
        FogIsland f = withSquare();
        f.sounder(25, 15, 1, 40);
        due("without a law", f.level(0, 0, 0, 0, 0, 0), 0);
        law(f, "vn(1=1)");
        int[][] none = {{1, 0, 0, 0, 0, 0}, {0, 1, 0, 0, 0, 0}, {0, -1, 0, 0, 0, 0}, {0, 0, -1, 0, 0, 0}, {0, 0, 0, 32, 0, 0},
            {0, 0, 0, 0, 24, 0}, {0, 0, 0, 0, -1, 0}, {0, 0, 0, 0, 0, 4}, {0, 0, 0, 0, 0, -1}};
        for (int[] a : none) {
            due("level", f.level(a[0], a[1], a[2], a[3], a[4], a[5]), -1);
        }
        due("through the land", f.level(0, 0, 0, 15, 0, 0), 10);
        due("along x first: past it", f.level(0, 0, 0, 5, 0, 0), 0);
        due("one's own cell does not count", f.level(0, 0, 10, 15, 0, 0), 9);
        due("at the sounder", f.level(0, 0, 25, 15, 23, 3), 0);
        f.sounder(15, 15, 0, 0);
        due("nor the sounder's, along x", f.level(0, 1, 0, 15, 0, 0), 5);
        due("nor the sounder's, along y", f.level(0, 1, 15, 0, 0, 0), 5);
        due("the bend counts once", f.level(0, 1, 0, 12, 0, 0), 8);
        due("the bend is one's own column", f.level(0, 1, 15, 31, 0, 0), 4);
        due("from right above", f.level(0, 1, 31, 18, 0, 0), 7);
        law(f, "v[u+40](r<0);v[r](u<0);vd(1=1)");
        due("r below 0, u below 0", f.level(0, 1, 20, 25, 0, 0), 30);
        due("u below 0", f.level(0, 1, 3, 25, 0, 0), 12);
        due("both above", f.level(0, 1, 3, 5, 0, 0), 22);
    }

    private static void lines() {
        promise = "10 line";
        FogIsland f = new FogIsland();
        int[][] none = {{-10, 0, 0, 0, 0}, {10, 0, 0, 0, 0}, {0, -10, 0, 0, 0}, {0, 10, 0, 0, 0}, {0, 0, -1, 0, 0}, {0, 0, 4, 0, 0},
            {0, 0, 0, -1, 0}, {0, 0, 0, 24, 0}, {0, 0, 0, 0, -1}, {0, 0, 0, 0, 4}};
        for (int[] a : none) {
            due("line", f.line(a[0], a[1], a[2], a[3], a[4]), -1);
        }
        for (int i = 0; i < 12; i++) {
            due("line " + i, f.line(i % 2 == 0 ? 9 : -9, -9, 3, 23, 3), i);
        }
        due("a 13th", f.line(0, 0, 0, 0, 0), -1);
        due("twelve", f.count(4), 12);
        FogIsland g = withSquare();
        g.box(5, 5, 5, 5);
        g.line(9, 9, 3, 0, 0);
        due("the move of line 0 is not asked", g.isPossible(0, 0, 5, 5), 1);
        due("nor its drift", g.possible(0, 0), 1);
        g.line(2, -3, 1, 0, 0);
        due("with drift", g.possible(0, 1), 9);
        due("its least", g.isPossible(0, 1, 6, 1), 1);
        due("its most", g.isPossible(0, 1, 8, 3), 1);
        due("beyond it", g.isPossible(0, 1, 9, 3), 0);
        g.line(0, -4, 2, 0, 0);
        due("cut by the edge", g.possible(0, 2), 7 * 2);
    }

    private static void hearing() {
        promise = "11 hears";
        FogIsland f = withSquare();
        f.sounder(0, 0, 0, 50);
        due("no line", f.hears(0, 0, 0), -1);
        f.line(0, 0, 0, 0, 0);
        int[][] none = {{1, 0, 0}, {-1, 0, 0}, {0, -1, 0}, {0, 100, 0}, {0, 0, -1}, {0, 0, 100}};
        for (int[] a : none) {
            due("hears", f.hears(a[0], a[1], a[2]), -1);
        }
        law(f, "vb-d(1=1)");
        due("a note", f.hears(0, 45, 1), 1);
        // d is 4, 5 or 6: 5 + 6 + 7 cells
        due("within the error", f.possible(0, 0), 18);
        due("a second", f.hears(0, 46, 0), 2);
        due("both hold", f.possible(0, 0), 5);
        law(f, "vb-d-1(1=1)");
        due("by the law of now", f.possible(0, 0), 4);
        for (int i = 3; i <= 6; i++) {
            due("note " + i, f.hears(0, 99, 99), i);
        }
        due("a seventh", f.hears(0, 99, 99), -1);
        due("six", f.count(5), 6);
        f.line(0, 0, 0, 0, 0);
        due("none at the new line", f.count(5), 0);
        FogIsland g = withSquare();
        g.sounder(0, 0, 0, 50);
        law(g, "vh+q(1=1)");
        g.line(0, 0, 0, 20, 3);
        g.hears(0, 23, 0);
        due("by the line's hour and wind", g.possible(0, 0), 924);
    }

    private static void echoes() {
        promise = "12 echo";
        FogIsland f = withSquare();
        due("no line", f.echo(0, 0), -1);
        f.line(0, 0, 0, 0, 0);
        int[][] none = {{-1, 0}, {4, 0}, {0, -1}, {0, 65}};
        for (int[] a : none) {
            due("echo", f.echo(a[0], a[1]), -1);
        }
        due("64 counts", f.echo(0, 64), 1);
        due("none can be so far", f.possible(0, 0), 0);
        f.back();
        int[][] rows = {{0, 4, 10}, {0, 5, 0}, {0, 20, 10}, {0, 22, 0}, {1, 2, 10}, {3, 2, 0}, {2, 2, 10}, {2, 24, 10},
            {0, 0, 924 - 100}, {1, 0, 924 - 100}, {3, 0, 924}, {2, 0, 924}};
        for (int[] a : rows) {
            f.line(0, 0, 0, 0, 0);
            due("a note", f.echo(a[0], a[1]), 1);
            due("echo " + a[0] + " after " + a[1], f.possible(0, 0), a[2]);
            f.back();
        }
        f.line(0, 0, 0, 0, 0);
        for (int i = 1; i <= 6; i++) {
            due("note " + i, f.echo(3, 0), i);
        }
        due("a seventh", f.echo(3, 0), -1);
    }

    private static void goingBack() {
        promise = "13 back";
        FogIsland f = withSquare();
        due("no line", f.back(), -1);
        f.box(0, 0, 3, 3);
        f.line(0, 0, 0, 0, 0);
        f.line(1, 0, 0, 0, 0);
        f.echo(3, 60);
        due("bad", f.firstBad(0), 1);
        due("taken back", f.back(), 1);
        due("fits again", f.fits(0), 1);
        due("its cells", f.possible(0, 0), 16);
        due("no such line", f.possible(0, 1), -2);
        f.line(2, 0, 0, 0, 0);
        due("the new line has no notes", f.count(5), 0);
        due("and its own move", f.isPossible(0, 1, 5, 0), 1);
        due("the first line stays as it was", f.possible(0, 0), 16);
        due("back", f.back(), 1);
        due("back", f.back(), 0);
        due("none", f.back(), -1);
        due("no notes", f.count(5), -1);
    }

    private static void wrongNotes() {
        promise = "14 wrong";
        FogIsland f = withSquare();
        due("-1", f.wrong(-1), false);
        due("4", f.wrong(4), false);
        due("0", f.wrong(0), true);
        f.box(0, 0, 3, 3);
        f.line(0, 0, 0, 0, 0);
        f.echo(0, 62);
        f.line(0, 0, 0, 0, 0);
        f.echo(0, 62);
        f.echo(1, 62);
        due("none may be wrong", f.firstBad(0), 0);
        f.wrong(1);
        due("one may be", f.firstBad(0), 1);
        f.wrong(2);
        due("two of all may be", f.fits(0), 0);
        f.wrong(3);
        due("three may be", f.fits(0), 1);
        due("refused", f.wrong(5), false);
        due("it stays", f.count(6), 3);
        // At (15, 1) the echo of 18 counts holds, so that one miss is saved for later.
        FogIsland g = withSquare();
        g.box(15, 1, 15, 2);
        g.wrong(1);
        g.line(0, 0, 0, 0, 0);
        g.echo(0, 18);
        due("both", g.possible(0, 0), 2);
        g.line(0, 0, 0, 0, 0);
        g.echo(0, 40);
        due("now one alone", g.possible(0, 0), 1);
        due("that one", g.isPossible(0, 0, 15, 1), 1);
        due("at the second line too", g.possible(0, 1), 1);
    }

    private static void boxes() {
        promise = "15 box";
        FogIsland f = withSquare();
        int[][] none = {{-1, 0, 0, 0}, {0, -1, 0, 0}, {0, 0, 32, 0}, {0, 0, 0, 32}, {2, 0, 1, 0}, {0, 2, 0, 1}, {32, 0, 32, 0}};
        f.line(0, 0, 0, 0, 0);
        for (int[] a : none) {
            due("box", f.box(a[0], a[1], a[2], a[3]), false);
        }
        due("all", f.possible(0, 0), 924);
        due("box", f.box(8, 9, 11, 12), true);
        due("both ends, without land", f.possible(0, 0), 16 - 6);
        due("one cell", f.box(31, 31, 31, 31), true);
        due("it", f.isPossible(0, 0, 31, 31), 1);
        due("and no other", f.possible(0, 0), 1);
        due("on land", f.box(12, 12, 13, 13), true);
        due("fits not", f.fits(0), 0);
        f.line(9, 0, 0, 0, 0);
        due("of line 0 alone", f.firstBad(0), 0);
    }

    private static void fitting() {
        promise = "16 fits";
        FogIsland f = withSquare();
        due("no such", f.fits(1), -1);
        due("no such", f.fits(-1), -1);
        due("an empty log", f.fits(0), 1);
        island(f, from(0, 0, 32, 32), 0, 0, 0, 0);
        due("an empty log, all land", f.fits(1), 1);
        f.line(0, 0, 0, 0, 0);
        due("water", f.fits(0), 1);
        due("no water", f.fits(1), 0);
        due("bits", f.count(8), 1);
        // The way between two lines may lead over land, the lines themselves not.
        f.box(9, 15, 9, 15);
        f.line(5, 0, 0, 0, 0);
        due("on land", f.fits(0), 0);
        f.back();
        f.line(9, 0, 2, 0, 0);
        due("over land", f.fits(0), 1);
        due("just at its end", f.isPossible(0, 1, 20, 15), 1);
        due("some of them", f.possible(0, 1), 5);
    }

    private static void badLines() {
        promise = "17 firstBad";
        FogIsland f = withSquare();
        due("no such", f.firstBad(1), -1);
        due("no such", f.firstBad(-1), -1);
        due("empty", f.firstBad(0), -2);
        f.line(0, 0, 0, 0, 0);
        due("fits", f.firstBad(0), -2);
        f.line(9, 0, 0, 0, 0);
        f.line(9, 0, 0, 0, 0);
        f.line(9, 0, 0, 0, 0);
        due("27 to the right", f.firstBad(0), -2);
        due("from the left alone", f.possible(0, 0) > 0, true);
        f.line(9, 0, 0, 0, 0);
        due("36 to the right", f.firstBad(0), 4);
        f.line(-9, 0, 3, 0, 0);
        due("the first one", f.firstBad(0), 4);
        due("nothing is possible", f.possible(0, 0), 0);
        FogIsland g = new FogIsland();
        island(g, from(0, 0, 32, 32), 0, 0, 0, 0);
        g.line(0, 0, 0, 0, 0);
        g.line(0, 0, 0, 0, 0);
        due("no water", g.firstBad(0), 0);
    }

    private static void possibleCells() {
        promise = "18 possible, 19 isPossible";
        FogIsland f = withSquare();
        f.push(0, 1, 5);
        due("no line", f.possible(0, 0), -2);
        due("no line, all", f.possible(-1, 0), -2);
        due("no line, is", f.isPossible(0, 0, 0, 0), -1);
        f.line(0, 0, 0, 0, 0);
        due("no such coast", f.possible(2, 0), -2);
        due("no such coast", f.possible(-2, 0), -2);
        due("no such line", f.possible(0, 1), -2);
        due("no such line", f.possible(0, -1), -2);
        int[][] none = {{2, 0, 0, 0}, {-1, 0, 0, 0}, {0, 1, 0, 0}, {0, -1, 0, 0}, {0, 0, -1, 0}, {0, 0, 32, 0}, {0, 0, 0, 32}, {0, 0, 0, -1}};
        for (int[] a : none) {
            due("isPossible", f.isPossible(a[0], a[1], a[2], a[3]), -1);
        }
        due("coast 0", f.possible(0, 0), 924);
        due("coast 1", f.possible(1, 0), 874);
        due("together", f.possible(-1, 0), 1798);
        due("in 0", f.isPossible(0, 0, 22, 15), 1);
        due("in 1", f.isPossible(1, 0, 22, 15), 0);
        // What comes later tells where one was.
        f.box(0, 0, 31, 0);
        f.line(0, 8, 1, 0, 0);
        f.echo(0, 2);
        due("at the second line", f.possible(0, 1), 10);
        due("at the first one", f.possible(0, 0), 12);
        due("its end", f.isPossible(0, 0, 9, 0), 1);
        due("beyond", f.isPossible(0, 0, 8, 0), 0);
        f.line(0, 0, 0, 0, 0);
        f.echo(1, 40);
        due("no way", f.possible(0, 0), 0);
        due("no way", f.possible(-1, 1), 0);
        FogIsland g = new FogIsland();
        g.line(0, 0, 0, 0, 0);
        due("no coast at all", g.possible(-1, 0), 0);
    }

    private static void sureCells() {
        promise = "20 sure";
        FogIsland f = withSquare();
        int[][] none = {{-1, 0, 0}, {32, 0, 0}, {0, -1, 0}, {0, 32, 0}, {0, 0, -1}, {0, 0, 3}};
        for (int[] a : none) {
            due("sure", f.sure(a[0], a[1], a[2]), -3);
        }
        f.push(0, 1, 5);
        f.push(0, 1, -5);
        int[][] rows = {{12, 12, 0, 0, -1}, {0, 0, 1, -1, 0}, {22, 12, 2, 1, 0}, {17, 12, 2, 0, 2}};
        for (int[] a : rows) {
            for (int what = 0; what < 3; what++) {
                due("sure " + a[0] + " " + a[1] + " " + what, f.sure(a[0], a[1], what), a[2 + what]);
            }
        }
        f.box(22, 12, 22, 12);
        f.line(0, 0, 0, 0, 0);
        due("coast 1 fits no more", f.count(8), 5);
        due("surely water now", f.sure(22, 12, 0), 1);
        due("land in none", f.sure(22, 12, 1), -1);
        f.box(12, 12, 12, 12);
        due("none fits", f.sure(22, 12, 0), -2);
        due("none fits", f.sure(22, 12, 2), -2);
        due("no such before none fits", f.sure(22, 32, 2), -3);
    }

    private static void choices() {
        promise = "21 choice";
        FogIsland f = withSquare();
        int[][] none = {{-1, 0, 0, 0}, {6, 0, 0, 0}, {0, -10, 0, 0}, {0, 10, 0, 0}, {0, 0, -10, 0}, {0, 0, 10, 0}, {0, 0, 0, -1}, {0, 0, 0, 4}};
        for (int[] a : none) {
            due("choice", f.choice(a[0], a[1], a[2], a[3]), false);
        }
        due("none told", f.count(7), 0);
        due("5", f.choice(5, -9, 9, 3), true);
        due("2", f.choice(2, 9, -9, 0), true);
        due("told", f.count(7), 36);
        f.box(15, 5, 15, 5);
        f.line(0, 0, 0, 0, 0);
        f.choice(2, 0, 0, 0);
        due("in place of the one before", f.next(0), 2);
        due("its answers", f.next(2), 10);
        due("told still", f.count(7), 36);
    }

    private static void nextShout() {
        promise = "22 next";
        FogIsland f = withSquare();
        due("no such", f.next(-1), -1);
        due("no such", f.next(4), -1);
        due("nothing", f.next(3), -2);
        f.choice(3, 0, 0, 0);
        due("no line", f.next(3), -2);
        f.line(0, 0, 0, 0, 0);
        due("all states", f.next(3), 924);
        // Up: 100 cells below the cliff, ten by ten, all others hear nothing.
        due("the most", f.next(1), 824);
        due("the answer", f.next(2), 0);
        f.choice(4, 0, 0, 2);
        // Down: 120 cells above a side that is unknown: they may hear nothing as well.
        due("as many with 3", f.next(0), 3);
        f.box(15, 0, 15, 9);
        due("one each", f.next(1), 1);
        due("of like ones the least", f.next(2), 2);
        due("ten states", f.next(3), 10);
        f.box(15, 20, 15, 29);
        due("from above, up and down alike", f.next(0), 3);
        due("from above", f.next(1), 10);
        f.choice(3, 0, -9, 2);
        // Only the cells from y 29 stay water behind the move.
        due("behind the move", f.next(0), 3);
        due("one of them", f.next(1), 1);
        due("it may hear nothing", f.next(2), 0);
        f.box(15, 29, 15, 29);
        f.choice(4, 0, 0, 2);
        due("of like choices the lowest", f.next(0), 3);
        f.choice(1, 9, 9, 0);
        due("off the cells", f.next(0), 1);
        due("no answer", f.next(1), 0);
        due("no worst one", f.next(2), -2);
        due("one state still", f.next(3), 1);
        f.box(15, 15, 15, 15);
        for (int what = 0; what < 4; what++) {
            due("no states", f.next(what), -2);
        }
        FogIsland g = withSquare();
        g.line(0, 0, 0, 0, 0);
        due("no choice", g.next(3), -2);
    }

    private static void twoAhead() {
        promise = "23 ahead";
        FogIsland f = withSquare();
        due("no such", f.ahead(-1), -1);
        due("no such", f.ahead(2), -1);
        due("nothing", f.ahead(0), -2);
        f.choice(0, 0, 0, 0);
        due("no line", f.ahead(0), -2);
        f.line(0, 0, 0, 0, 0);
        f.box(11, 0, 14, 9);
        // Up tells y alone: four states stay, whatever is asked second.
        due("up and up", f.ahead(1), 4);
        due("the first", f.ahead(0), 0);
        f.choice(2, -5, 9, 1);
        // Behind up: left by 5 and up by 9 the shout to the right tells x, where it meets the cliff:
        // y 1 to 9 come to 10 to 18 and hear x apart; y 0 comes to 9 and all four hear nothing, as by up.
        // The other way round, eight states stay: above y 19 nothing tells y.
        due("y 0 stays four", f.ahead(1), 4);
        f.box(11, 1, 14, 9);
        due("all told apart", f.ahead(1), 1);
        due("by the lowest first", f.ahead(0), 0);
        f.box(15, 15, 15, 15);
        due("no states", f.ahead(0), -2);
        due("no states", f.ahead(1), -2);
        FogIsland g = withSquare();
        g.line(0, 0, 0, 0, 0);
        due("no choice", g.ahead(0), -2);
        // From above the unknown side: an echo or none; each answer leaves the state in both.
        g.box(15, 22, 15, 23);
        g.choice(1, 0, 0, 2);
        due("unknown stays twice", g.ahead(1), 2);
        g.choice(0, 0, 9, 1);
        due("one away falls off", g.ahead(1), 0);
        due("first", g.ahead(0), 0);
    }

    private static void waysIn() {
        promise = "24 wayIn";
        FogIsland f = withSquare();
        int[][] none = {{-1, 0, 1, 1, 0}, {0, 32, 1, 1, 0}, {0, 0, 32, 1, 0}, {0, 0, 1, -1, 0}, {0, 0, 1, 1, -2}, {0, 0, 1, 1, 101}};
        for (int[] a : none) {
            due("wayIn", f.wayIn(a[0], a[1], a[2], a[3], a[4]), -1);
        }
        due("straight: turns", f.wayIn(0, 0, 0, 31, -1), 0);
        due("straight: steps", f.wayIn(0, 0, 0, 31, 100), 31);
        due("straight: last", f.wayIn(0, 0, 0, 31, 30), 0);
        due("straight: beyond", f.wayIn(0, 0, 0, 31, 31), -1);
        due("one turn", f.wayIn(0, 0, 5, 5, -1), 1);
        due("up first", f.wayIn(0, 0, 5, 5, 0), 0);
        due("then right", f.wayIn(0, 0, 5, 5, 5), 1);
        due("left before down? the least first", f.wayIn(5, 5, 0, 0, 0), 2);
        due("past the land", f.wayIn(15, 5, 15, 25, -1), 2);
        due("past the land, the shorter side", f.wayIn(15, 5, 15, 25, 0), 1);
        due("past the land, steps", f.wayIn(15, 5, 15, 25, 100), 20 + 10);
        due("one and the same", f.wayIn(3, 3, 3, 3, -1), 0);
        due("one and the same, steps", f.wayIn(3, 3, 3, 3, 100), 0);
        due("one and the same, no step", f.wayIn(3, 3, 3, 3, 0), -1);
        due("one on land", f.wayIn(15, 15, 15, 15, -1), -2);
        due("to land", f.wayIn(0, 0, 15, 15, 0), -2);
        due("from land", f.wayIn(15, 15, 0, 0, 100), -2);
        FogIsland g = new FogIsland();
        due("a hook", coast(g, 4, 0, 6, 0, 6, 28, 20, 28, 20, 30, 4, 30, 0, 0, 0, 0, 0, 0), 0);
        due("round the hook: turns", g.wayIn(2, 5, 8, 5, -1), 3);
        due("round the hook: steps", g.wayIn(2, 5, 8, 5, 100), 25 + 18 + 25 + 12);
        int[][] steps = {{0, 0}, {24, 0}, {25, 1}, {42, 1}, {43, 2}, {67, 2}, {68, 3}, {79, 3}, {80, -1}, {99, -1}};
        for (int[] a : steps) {
            due("step " + a[0], g.wayIn(2, 5, 8, 5, a[0]), a[1]);
        }
        // With a second land a way of four turns past both has fewer steps than that of two below it.
        FogIsland m = new FogIsland();
        coast(m, 8, 6, 10, 6, 10, 32, 8, 32, 0, 0, 0, 0);
        due("down, right", m.wayIn(7, 10, 15, 10, -1), 2);
        due("down, right, up", m.wayIn(7, 10, 15, 10, 100), 5 + 8 + 5);
        m.push(0, 0, 1);
        coast(m, 12, 4, 13, 4, 13, 6, 12, 6, 0, 0, 0, 0);
        due("a second land in the way", m.wayIn(7, 10, 15, 10, -1), 2);
        due("below it", m.wayIn(7, 10, 15, 10, 100), 7 + 8 + 7);
        FogIsland h = new FogIsland();
        due("a wall", island(h, from(10, 0, 11, 32), 0, 0, 0, 0), 0);
        due("no way", h.wayIn(0, 0, 20, 0, -1), -2);
        due("no way, a step", h.wayIn(0, 0, 20, 0, 99), -2);
        FogIsland k = new FogIsland();
        due("no coast", k.wayIn(1, 1, 1, 1, -1), -2);
    }

    private static void pools() {
        promise = "25 pool";
        FogIsland f = withSquare();
        int[][] none = {{-1, 0, 0}, {32, 0, 0}, {0, 32, 0}, {0, -1, 0}, {0, 0, -1}, {0, 0, 3}};
        for (int[] a : none) {
            due("pool", f.pool(a[0], a[1], a[2]), -1);
        }
        due("pool", f.pool(0, 0, 0), 924);
        due("wall", f.pool(0, 0, 1), 36);
        due("of it maybe water", f.pool(0, 0, 2), 0);
        f.push(0, 0, 5);
        due("pool as before", f.pool(0, 0, 0), 924);
        due("wall as before", f.pool(0, 0, 1), 36);
        due("of it now maybe water", f.pool(0, 0, 2), 10 + 4 + 4);
        due("on land", f.pool(15, 18, 0), 0);
        due("on land, wall", f.pool(15, 18, 1), 0);
        due("not sure", f.pool(15, 11, 2), 0);
        FogIsland g = new FogIsland();
        due("a wall", island(g, from(10, 0, 11, 32), 0, 0, 0, 0), 0);
        due("left of it", g.pool(3, 3, 0), 320);
        due("right of it", g.pool(30, 30, 0), 21 * 32);
        due("its wall", g.pool(30, 30, 1), 32);
        FogIsland h = new FogIsland();
        due("a ring with a hole", coast(h, 0, 0, 8, 0, 8, 8, 2, 8, 2, 4, 4, 4, 4, 6, 0, 6, 0, 0, 0, 0, 0, 0, 0, 0), 0);
        due("the hole", h.pool(2, 4, 0) + 1000 * h.pool(3, 5, 0), 4004);
        due("its wall", h.pool(2, 4, 1), 8);
        FogIsland k = new FogIsland();
        due("no coast", k.pool(0, 0, 0), -2);
    }

    private static void checks() {
        promise = "26 check";
        FogIsland f = new FogIsland();
        due("no coast", f.check(0, 0), -2);
        island(f, from(0, 0, 32, 2), 0, 0, 0, 0);
        due("no such", f.check(1, 0), -2);
        due("no such", f.check(-1, 0), -2);
        due("n below 0", f.check(0, -1), -2);
        f.feed(-1, -1, 0, 0, 0);
        due("n above 32", f.check(0, 33), -2);
        due("it has not so many", f.check(0, 6), -2);
        due("the tape stays", f.count(3), 20);
        due("some are lacking", f.check(0, 5), 5);
        due("the tape is empty", f.count(3), 0);
        f.feed(-1, -1, 0, 0, 0);
        due("no number", f.check(0, 0), 0);
        due("the tape is empty", f.count(3), 0);
        f.feed(-1, Integer.MAX_VALUE, 0, 0, 0);
        due("bit 31 is x 31", f.check(0, 5), 1);
        f.feed(-1, -1, 0, 1, 0);
        due("the first that is not so", f.check(0, 5), 3);
        f.feed(-1, -1, 0, 1, 0);
        due("it is not asked", f.check(0, 3), 3);
        f.feed(-1, -1, 0, 0, 0);
        for (int i = 0; i < 6; i++) {
            f.feed(0, 0, 0, 0, 0);
        }
        due("right", f.check(0, 32), -1);
        due("the tape is empty", f.count(3), 0);
        f.feed(-1, -1, 0, 0, 0);
        for (int i = 0; i < 6; i++) {
            f.feed(0, i == 5 ? 4 : 0, 0, 0, 0);
        }
        due("the 32nd", f.check(0, 32), 31);
    }

    private static void counts() {
        promise = "27 count";
        FogIsland f = withSquare();
        coast(f, 0, 0, 3, 0, 3, 3, 2, 3, 2, 4, 0, 4, 0, 0, 0, 0, 0, 0);
        law(f, "v1(1=1);v2(1=1);v3(1=1)");
        f.sounder(1, 1, 1, 1);
        f.sounder(2, 2, 2, 2);
        f.line(0, 0, 0, 0, 0);
        f.echo(0, 0);
        f.line(0, 0, 0, 0, 0);
        f.echo(1, 0);
        f.hears(0, 1, 99);
        f.wrong(2);
        f.choice(0, 0, 0, 0);
        f.choice(3, 0, 0, 0);
        f.feed(0, 0, 0, 0, 0);
        int[] want = {2, 2, 3, 20, 2, 2, 2, 9, 3, -1, 4, 6, -1};
        for (int what = 0; what < want.length; what++) {
            due("count(" + what + ")", f.count(what), want[what]);
        }
        for (int what : new int[] {-1, 17, 18, 1000, Integer.MIN_VALUE, Integer.MAX_VALUE}) {
            due("count(" + what + ")", f.count(what), -1);
        }
        f.box(0, 0, 0, 0);
        due("coast 1 has land there", f.count(8), 1);
    }
}
