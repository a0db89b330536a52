import java.util.Arrays;

/** Sentences on the law and the sounders: promises 4, 8 and 9, with their terms. */
final class LawSentences extends Sentences {
    private static final String LETTERS = "bkshqdurn";
    private static final String DIGITS = "0123456789";
    private static final String TIMES = "*/%";
    private static final String SIGNS = TIMES + "+-";
    private static final String SUM = "[" + DIGITS + LETTERS;
    private static final String PIECE = "!(" + SUM;

    private LawSentences() {
    }

    static void all() {
        lawNumbers();
        whatCanStand();
        digits();
        clauses();
        openSigns();
        firstFault();
        sounders();
        levelArguments();
        levelBounds();
        letters();
        wayBetween();
        reckoning();
        conditions();
        refused();
    }

    /** What the law answers in a new object. */
    private static int told(String text) {
        return law(new FogIsland(), text);
    }

    /** The level by a law at 5, 12 of sounder 1 (kind 1, loudness 40) at 25, 15, hour 7, wind 3. */
    private static int heard(String text) {
        FogIsland f = withSquare();
        f.sounder(3, 4, 2, 50);
        f.sounder(25, 15, 1, 40);
        due("CLAUSES of " + text + " (1: some)", law(f, text) > 0, true);
        return f.level(0, 1, 5, 12, 7, 3);
    }

    private static String clauses(int n) {
        return ";v1(0=0)".repeat(n).substring(1);
    }

    // ---- promise 4: the numbers ----

    private static void lawNumbers() {
        howManyBytes();
        tapeTooShort();
        emptyThen();
        inPlaceOfTheOneBefore();
        aFaultLeavesTheText();
    }

    private static void howManyBytes() {
        says(4, "THE LAW: a TEXT of at most 160 bytes, no blanks (none at first)");
        FogIsland f = new FogIsland();
        due("none at first", f.count(2), 0);
        String longest = "v" + "1+".repeat(76) + "23(0=0)";
        due("a TEXT of 160", longest.length(), 160);
        due("160 bytes", law(f, longest), 1);
        says(4, "(1 to 160; empty then)");
        feedText(f, longest + ";v2(0=0)");
        for (int n : new int[] {0, -1, 161, 162, 168, 180, 256, 416, LEAST, MOST, LEAST + 7}) {
            due("law(" + n + ")", f.law(n), -1);
        }
        due("the tape stays", f.count(3), 180);
        due("160 of 180 bytes", f.law(160), 1);
        due("empty then", f.count(3), 0);
        feedText(f, "v");
        due("law(1)", f.law(1), -1001);
        due("empty then", f.count(3), 0);
        says(4, "NONE: no such n");
        feedText(f, longest);
        due("law(0)", f.law(0), -1);
        due("law(161) with 160 bytes", f.law(161), -1);
        due("the tape stays", f.count(3), 160);
    }

    private static void tapeTooShort() {
        says(4, "it has not so many (the tape stays)");
        FogIsland f = new FogIsland();
        due("one of none", f.law(1), -1);
        String twenty = "v12345-12300+4(0=00)";
        feedText(f, twenty);
        due("21 of 20", f.law(21), -1);
        due("160 of 20", f.law(160), -1);
        due("the tape stays", f.count(3), 20);
        due("20 of 20", f.law(20), 1);
    }

    private static void emptyThen() {
        says(4, "THE LAW by the first n bytes of the tape");
        FogIsland f = new FogIsland();
        feedText(f, "v1(0=0);v2(0=0)zzzz");
        f.feed(-1, -1, -1, -1, -1);
        due("the first one alone", f.law(7), 1);
        due("the tape is empty", f.count(3), 0);
        feedText(f, "v1(0=0);v2(0=0)zzzz");
        f.feed(-1, -1, -1, -1, -1);
        due("both, and one byte too many", f.law(16), -1015);
        due("the tape is empty", f.count(3), 0);
    }

    private static void inPlaceOfTheOneBefore() {
        says(4, "in place of the one before: how many CLAUSES");
        FogIsland f = withSquare();
        f.sounder(0, 0, 0, 0);
        due("three", law(f, "v1(0=1);v2(0=1);v3(0=0)"), 3);
        due("the third", f.level(0, 0, 0, 0, 0, 0), 3);
        due("one", law(f, "v4(0=1)"), 1);
        due("nothing of those before", f.level(0, 0, 0, 0, 0, 0), 0);
        due("CLAUSES", f.count(2), 1);
        law(f, "v1(0=1);v2(0=0)");
        law(f, "v3(0=0)");
        law(f, "v4(0=1)");
        due("nothing of the last but one", f.level(0, 0, 0, 0, 0, 0), 0);
        for (int i = 10; i < 22; i++) {
            due("a long one, time and again", law(f, "v" + "0+".repeat(75) + i + "(0=0)"), 1);
            due("its LEVEL", f.level(0, 0, 0, 0, 0, 0), i);
        }
        for (int n = 1; n <= 12; n++) {
            due(n + " CLAUSES", law(f, clauses(n)), n);
            due("count(2)", f.count(2), n);
        }
    }

    private static void aFaultLeavesTheText() {
        says(4, "a FAULT: -1000 times its number, less its place (the TEXT before stays)");
        FogIsland f = withSquare();
        f.sounder(0, 0, 0, 0);
        law(f, "v6(0=1);v7(0=0)");
        String[] faults = {"v8(0=0);", "v123456(0=0)", clauses(12) + ";v", "v[[[[[[[8"};
        int[] want = {-1008, -2006, -4096, -5007};
        for (int i = 0; i < faults.length; i++) {
            due(faults[i], law(f, faults[i]), want[i]);
            due("the tape is empty", f.count(3), 0);
            due("CLAUSES as before", f.count(2), 2);
            due("the LEVEL as before", f.level(0, 0, 0, 0, 0, 0), 7);
        }
        FogIsland g = withSquare();
        g.sounder(0, 0, 0, 0);
        due("a FAULT where none was before", law(g, "v8(0=0)v"), -1007);
        due("none still", g.count(2), 0);
        due("not heard", g.level(0, 0, 0, 0, 0, 0), 0);
    }

    // ---- promise 4: fault 1 ----

    private static void whatCanStand() {
        signsThatCanStand();
        theEndToo();
        noBlanks();
    }

    /** Behind a text that can go on, each of 256 bytes: a fault 1 at it, another fault at it, or none up to it. */
    private static void standing(String text, String can, String other, int fault) {
        for (int b = 0; b < 256; b++) {
            int answer = told(text + (char) b);
            boolean ends = answer > 0 || answer == -1000 - text.length() - 1;
            int found = ends ? 0 : answer == -1000 - text.length() ? 1 : answer == -1000 * fault - text.length() ? fault : 99;
            int want = can.indexOf(b) >= 0 ? 0 : other.indexOf(b) >= 0 ? fault : 1;
            due(text + " and then byte " + b + ": the fault", found, want);
        }
    }

    private static void signsThatCanStand() {
        says(4, "CLAUSES (12 at most) with a ; (59) between two: v, E and (C)");
        standing("", "v", "", 1);
        standing("vb", SIGNS + "(", "", 1);
        standing("vb(b=b)", ";", "", 1);
        standing("vb(b=b);", "v", "", 1);
        says(4, "C: PARTS with a | between two, one of which must hold; a PART: PIECES with an & between two, all of which must;");
        standing("vb(", PIECE, "", 1);
        standing("vb(b=b|", PIECE, "", 1);
        standing("vb(b=b&", PIECE, "", 1);
        says(4, "a PIECE: !PIECE, (C), or E, one of < > =, and E.");
        standing("vb(!", PIECE, "", 1);
        standing("vb((", PIECE, "", 1);
        standing("vb(b", SIGNS + "<>=", "", 1);
        standing("vb(b=", SUM, "", 1);
        standing("vb(b<b", SIGNS + "&|)", "", 1);
        standing("vb((b>b", SIGNS + "&|)", "", 1);
        standing("vb((b=b)", "&|)", "", 1);
        standing("vb(!b=b", SIGNS + "&|)", "", 1);
        standing("vb(!(b=b)", "&|)", "", 1);
        says(4, "E: TERMS with + or - between two; a TERM: FACTORS with one of * / % between two;");
        standing("v", SUM, "", 1);
        standing("vb+", SUM, "", 1);
        standing("vb-", SUM, "", 1);
        standing("vb*", SUM, "", 1);
        standing("vb/", SUM, "", 1);
        standing("vb%", SUM, "", 1);
        says(4, "a FACTOR: [E], a number of one to five digits, or a letter:");
        standing("v[", SUM, "", 1);
        standing("v[b", SIGNS + "]", "", 1);
        standing("v[b]", SIGNS + "(", "", 1);
        standing("v[[b]", SIGNS + "]", "", 1);
        standing("vb([b", SIGNS + "]", "", 1);
        standing("vb([b]", SIGNS + "<>=", "", 1);
        standing("vb(b=[b]", SIGNS + "&|)", "", 1);
        standing("v1", DIGITS + SIGNS + "(", "", 1);
        standing("vb(1", DIGITS + SIGNS + "<>=", "", 1);
        standing("vb(b=1", DIGITS + SIGNS + "&|)", "", 1);
    }

    private static void theEndToo() {
        says(4, "FAULTS, the first from the left: 1 what can't stand there (the end, too)");
        String text = "v[b+1]*23-k(!b<2&(k=1|[d]>3)|s%2=0);v7(0=0)";
        due("the whole", told(text), 2);
        int first = text.indexOf(';');
        for (int n = 1; n < text.length(); n++) {
            due(n + " bytes of it", told(text.substring(0, n)), n == first ? 1 : -1000 - n);
        }
    }

    private static void noBlanks() {
        says(4, "no blanks");
        String text = "v[b+1]*23-k(!b<2&(k=1|[d]>3)|s%2=0);v7(0=0)";
        for (int at = 0; at <= text.length(); at++) {
            for (char sign : new char[] {' ', 0, 255, '$', 9}) {
                due("byte " + (int) sign + " before " + at, told(text.substring(0, at) + sign + text.substring(at)), -1000 - at);
            }
        }
    }

    // ---- promise 4: faults 2, 4 and 5 ----

    private static void digits() {
        says(4, "a number of one to five digits");
        String[] fair = {"v0(0=0)", "v99999(0=0)", "v00000(0=0)", "v1(12345=0)", "v1(0=12345)", "v[12345](0=0)", "v1([12345]=0)", "v1+99999-99999(0=0)"};
        for (String text : fair) {
            due(text, told(text), 1);
        }
        says(4, "2 a sixth digit, at it;");
        String[] six = {"v123456(0=0)", "v000000(0=0)", "v1(123456=0)", "v1(0=123456)", "v[123456](0=0)", "v1([123456]=0)", "v1+123456(0=0)",
            "v1*1234567890(0=0)", "v123456", "v12345x6"};
        int[] want = {-2006, -2006, -2008, -2010, -2007, -2009, -2008, -2008, -2006, -1006};
        for (int i = 0; i < six.length; i++) {
            due(six[i], told(six[i]), want[i]);
        }
        standing("v12345", SIGNS + "(", DIGITS, 2);
        standing("v1(0=12345", SIGNS + "&|)", DIGITS, 2);
    }

    private static void clauses() {
        says(4, "4 a 13th CLAUSE, at its letter (if that can stand there);");
        String twelve = clauses(12);
        due("twelve", told(twelve), 12);
        due("its letter alone", told(twelve + ";v"), -4096);
        due("a whole one", told(twelve + ";v1(0=0)"), -4096);
        due("one with a fault of its own", told(twelve + ";v$"), -4096);
        due("its letter without a ;", told(twelve + "v"), -1095);
        due("no letter", told(twelve + ";"), -1096);
        due("a fault in the twelfth", told(clauses(11) + ";v1(0=0;v1(0=0)"), -1094);
        standing(twelve, ";", "", 1);
        standing(twelve + ";", "", "v", 4);
    }

    private static void openSigns() {
        says(4, "5 a seventh of ( [ ! that are open in one another, at it (the ( of the CLAUSE counts;");
        String[] six = {"v5((((((0=0))))))", "v5(!!!!!0=0)", "v5([[[[[0]]]]]=0)", "v5(0=[[[[[0]]]]])", "v5(!(!([0]=0)))"};
        for (String text : six) {
            due(text, told(text), 1);
        }
        String[] seven = {"v5(((((((0=0)))))))", "v5(!!!!!!0=0)", "v5([[[[[[0]]]]]]=0)", "v5(0=[[[[[[0]]]]]])", "v5(!(!([[0]]=0)))", "v5(((((!(0=0))))))",
            "v5((!(!([0]=0))))"};
        int[] place = {8, 8, 8, 10, 8, 8, 8};
        for (int i = 0; i < seven.length; i++) {
            due(seven[i], told(seven[i]), -5000 - place[i]);
        }
        standing("v5((((((", SUM.substring(1), "([!", 5);
        standing("v5(!!!!!", SUM.substring(1), "([!", 5);
        standing("v5([[[[[", SUM.substring(1), "[", 5);
        says(4, "a ! is open till its PIECE ends;");
        due("five, five and five", told("v5(!!!!!0=0&!!!!!0=0|!!!!!0=0)"), 1);
        due("open in the E behind the sign", told("v5(!!!!!0=[0])"), -5010);
        due("open in the E before the sign", told("v5(!!!!![0]=0)"), -5008);
        due("four leave room for one", told("v5(!!!!0=[0])"), 1);
        due("open around a (C)", told("v5(!!(0=0&!(0=0)))"), 1);
        due("open around a (C), one more", told("v5(!!(0=0&!((0=0))))"), -5012);
        due("no more behind the )", told("v5(!!!!(0=0)&((((([0]=0))))))"), -5018);
        due("no more behind the ), five", told("v5(!!!!(0=0)&(((((0=0))))))"), 1);
        says(4, "the E of a CLAUSE stands ahead of it).");
        due("six in the E", told("v[[[[[[5]]]]]](0=0)"), 1);
        due("seven in the E", told("v[[[[[[[5]]]]]]](0=0)"), -5007);
        due("six in the E and six in the C", told("v[[[[[[5]]]]]]((((((0=0))))))"), 1);
        due("in one another alone", told("v[[[[[[5]]]]]]+[[[[[[5]]]]]](0=0)"), 1);
        due("a second CLAUSE begins anew", told("v5((((((0=0))))));v[[[[[[5]]]]]](!!!!!0=0)"), 2);
        standing("v[[[[[[", SUM.substring(1), "[", 5);
    }

    private static void firstFault() {
        says(4, "FAULTS, the first from the left");
        due("2 before 1", told("v123456$(0=0)"), -2006);
        due("1 before 2", told("v$123456(0=0)"), -1001);
        due("5 before 2", told("v[[[[[[[123456"), -5007);
        due("2 before 5", told("v123456[[[[[[["), -2006);
        due("1 before 4", told("v$" + clauses(13).substring(1)), -1001);
        due("a seventh that can't stand there", told("v5((((((0(=0"), -1009);
        due("a ! in a seventh place that can't stand there", told("v5((((((0!=0"), -1009);
    }

    // ---- promise 8 ----

    private static void sounders() {
        says(8, "NONE: no such ones");
        bounds("sounder", FogIsland::new, (f, a) -> f.sounder(a[0], a[1], a[2], a[3]), -1, new int[] {0, 0, 0, 0},
            range(0, 31), range(0, 31), range(0, 3), range(0, 99));
        says(8, "SOUNDERS 0 to 5: at a CELL, a KIND (0 to 3), a LOUDNESS (0 to 99).");
        FogIsland f = withSquare();
        law(f, "vb-k*10-d(0=0)");
        int[] loud = {99, 0, 99, 50, 98, 1};
        for (int i = 0; i < 6; i++) {
            due("SOUNDER " + i, f.sounder(31, i, i & 3, loud[i]), i);
        }
        int[] want = {99, 0, 79, 20, 98, 0};
        for (int i = 0; i < 6; i++) {
            due("the LEVEL of SOUNDER " + i, f.level(0, i, 31, i, 0, 0), want[i]);
        }
        says(8, "A SOUNDER: its number; NONE: no such ones, 6 are there.");
        due("a seventh", f.sounder(0, 0, 0, 0), -1);
        due("six", f.count(1), 6);
        due("no SOUNDER 6", f.level(0, 6, 0, 0, 0, 0), -1);
        due("the sixth as it was", f.level(0, 4, 31, 4, 0, 0), 98);
    }

    // ---- promise 9 ----

    private static FogIsland withTwoSounders() {
        FogIsland f = withSquare();
        f.push(0, 1, 3);
        f.sounder(3, 4, 2, 50);
        f.sounder(25, 15, 1, 40);
        law(f, "v7(0=0)");
        return f;
    }

    private static void levelArguments() {
        says(9, "NONE: no such ones");
        bounds("level", LawSentences::withTwoSounders, (f, a) -> f.level(a[0], a[1], a[2], a[3], a[4], a[5]), -1,
            new int[] {0, 0, 0, 0, 0, 0}, range(0, 1), range(0, 1), range(0, 31), range(0, 31), range(0, 23), range(0, 3));
        says(9, "The LEVEL of a SOUNDER at a CELL by a COAST");
        FogIsland f = withTwoSounders();
        law(f, "vn(0=0)");
        due("by COAST 0", f.level(0, 1, 5, 15, 0, 0), 10);
        due("by COAST 1", f.level(1, 1, 5, 15, 0, 0), 13);
        due("at LAND", f.level(0, 1, 12, 15, 0, 0), 7);
    }

    private static void levelBounds() {
        says(9, "the LEVEL at which a SOUNDER is heard (0 to 99; of the first CLAUSE whose C holds; none: 0; beyond its bounds the bound).");
        String[] texts = {"v0(0=0)", "v99(0=0)", "v100(0=0)", "v99999(0=0)", "v0-1(0=0)", "v1-1(0=0)", "v0-99999(0=0)", "v32768*65536(0=0)",
            "v32767*65536(0=0)", "v1(0=1)", "v1(0=1);v2(0=1)", "v1(0=1);v2(0=0);v3(0=0)", "v1(0=0);v2(0=0)", "v0-5(0=0);v6(0=0)"};
        int[] want = {0, 99, 99, 99, 0, 0, 0, 0, 99, 0, 0, 2, 1, 0};
        for (int i = 0; i < texts.length; i++) {
            due(texts[i], heard(texts[i]), want[i]);
        }
        due("the twelfth of twelve", heard("v1(0=1);".repeat(11) + "v12(0=0)"), 12);
    }

    private static int at(int[] sounder, int[] cell, int[] time, String text) {
        FogIsland f = new FogIsland();
        allLand(f);
        noLand(f);
        f.sounder(sounder[0], sounder[1], sounder[2], sounder[3]);
        law(f, text);
        return f.level(0, 0, cell[0], cell[1], time[0], time[1]);
    }

    private static void letters() {
        says(9, "b the LOUDNESS, k the KIND, s the SOUNDER, h the HOUR (0 to 23), q the WIND (0 to 3)");
        int[] low = {0, 0, 0, 0};
        int[] high = {31, 31, 3, 99};
        int[] first = {0, 0};
        int[] last = {31, 31};
        int[] dawn = {0, 0};
        int[] night = {23, 3};
        String[] texts = {"vb(0=0)", "vk(0=0)", "vh(0=0)", "vq(0=0)"};
        int[] most = {99, 3, 23, 3};
        for (int i = 0; i < texts.length; i++) {
            due(texts[i] + " least", at(low, first, dawn, texts[i]), 0);
            due(texts[i] + " most", at(high, first, night, texts[i]), most[i]);
        }
        FogIsland f = withSquare();
        law(f, "vs(0=0)");
        for (int i = 0; i < 6; i++) {
            f.sounder(0, 0, 0, 0);
            due("s of SOUNDER " + i, f.level(0, i, 0, 0, 0, 0), i);
        }
        says(9, "d THE WAY (the differences of x and y without sign, together)");
        due("none", at(high, last, dawn, "vd(0=0)"), 0);
        due("the farthest", at(high, first, dawn, "vd(0=0)"), 62);
        due("the farthest back", at(low, last, dawn, "vd(0=0)"), 62);
        due("along x", at(low, new int[] {31, 0}, dawn, "vd(0=0)"), 31);
        due("along y", at(low, new int[] {0, 31}, dawn, "vd(0=0)"), 31);
        says(9, "u, r how much higher the SOUNDER's y is, how much farther right its x (may be below 0)");
        due("u most", at(high, new int[] {31, 0}, dawn, "vu*2+r(0=0)"), 62);
        due("r most", at(high, new int[] {0, 31}, dawn, "vr*2+u(0=0)"), 62);
        due("u least", at(low, new int[] {0, 31}, dawn, "v[0-u]*2+r(u<0)"), 62);
        due("r least", at(low, new int[] {31, 0}, dawn, "v[0-r]*2+u(r<0)"), 62);
        due("both 0", at(low, first, dawn, "v9(u=0&r=0)"), 9);
    }

    private static void wayBetween() {
        says(9, "n how many LAND CELLS lie on the way first along x, then along y, to it (neither its nor one's own).");
        int[] end = {31, 31, 0, 0};
        int[] corner = {0, 0, 0, 0};
        int[] dawn = {0, 0};
        due("all on the longest way", at(end, new int[] {0, 0}, dawn, "vn(0=0)"), 61);
        due("and back", at(corner, new int[] {31, 31}, dawn, "vn(0=0)"), 61);
        due("at the SOUNDER", at(corner, new int[] {0, 0}, dawn, "vn(0=0)"), 0);
        int[][] near = {{1, 0, 0}, {0, 1, 0}, {2, 0, 1}, {0, 2, 1}, {1, 1, 1}, {31, 0, 30}, {0, 31, 30}};
        for (int[] a : near) {
            due("from " + Arrays.toString(a), at(corner, new int[] {a[0], a[1]}, dawn, "vn(0=0)"), a[2]);
            due("to " + Arrays.toString(a), at(new int[] {31 - a[0], 31 - a[1], 0, 0}, new int[] {31, 31}, dawn, "vn(0=0)"), a[2]);
        }
        FogIsland f = withSquare();
        law(f, "vn(0=0)");
        f.sounder(15, 5, 0, 0);
        f.sounder(5, 15, 0, 0);
        due("along x in one's own row, then along its column", f.level(0, 0, 5, 14, 0, 0), 6 + 4);
        due("along x below the LAND, then none of its column", f.level(0, 1, 15, 5, 0, 0), 0);
        due("along x to its column, none of it LAND", f.level(0, 1, 15, 12, 0, 0), 5);
        due("the bend at the LAND's first CELL", f.level(0, 0, 9, 10, 0, 0), 6);
        due("the bend one below", f.level(0, 0, 9, 9, 0, 0), 0);
    }

    private static void reckoning() {
        says(9, "from the left on;");
        int[] want = {2, 88, 4, 4, 14, 20, 24, 10, 8, 3};
        String[] texts = {"v9-4-3(0=0)", "v90/4*4(0=0)", "v17%5*2(0=0)", "v80/4/5(0=0)", "v2+3*4(0=0)", "v[2+3]*4(0=0)", "v99/[9/2](0=0)",
            "v2*3+4(0=0)", "v9-4+3(0=0)", "v100/6%4/1+3(0=0)"};
        for (int i = 0; i < texts.length; i++) {
            due(texts[i], heard(texts[i]), want[i]);
        }
        // In each bracket a number waits before the + and one before the *.
        String six = "1+1*[1+1*[1+1*[1+1*[1+1*[1+1*[1+1*3]]]]]]";
        String five = "1+1*[1+1*[1+1*[1+1*[1+1*[1+1*3]]]]]";
        due("as much as can wait, in the E of a CLAUSE", heard("v" + six + "(0=0)"), 10);
        due("as much as can wait, before the sign", heard("v5(" + five + "=9);v6(0=0)"), 5);
        due("as much as can wait, behind the sign", heard("v5(9=" + five + ");v6(0=0)"), 5);
        says(9, "All is reckoned with 32 bits, as the machine does;");
        String[] holds = {"65536*65536=0", "46341*46341<0", "46340*46340>0", "32767*65536+65535>0", "32767*65536+65535+1<0",
            "0-32768*65536-1>0", "32768*65536<0", "32768*65536/[0-1]<0", "32768*65536%[0-1]=0", "[0-7]/2=0-3", "[0-7]%4=0-3", "7/[0-2]=0-3",
            "7%[0-4]=3", "99999*99999>0"};
        for (String c : holds) {
            due(c, heard("v1(" + c + ")"), 1);
        }
        // 9999800001 less twice 4294967296 is 1409865409.
        due("99999 squared, its last digits", heard("v99999*99999%100(0=0)"), 9);
    }

    private static void conditions() {
        says(9, "one of which must hold; a PART: PIECES with an & between two, all of which must;");
        String[] texts = {"0=0", "0=1", "0=0&0=0", "0=0&0=1", "0=1&0=0", "0=1|0=1", "0=1|0=0", "0=0|0=1", "0=1&0=0|0=0", "0=0|0=0&0=1",
            "0=1|0=1|0=0", "0=0&0=0&0=1", "!0=1", "!0=0", "!!0=0", "!(0=0|0=1)", "!(0=1)&0=0", "!0=1&0=1", "!0=0|0=0", "(0=1|0=0)&0=0", "(0=0|0=0)&0=1",
            "1<2", "2<2", "3<2", "3>2", "2>2", "1>2", "2=2", "2=1", "0=1&!0=1", "0=0|!0=0", "0=0&!0=1|!0=0", "0=1&!0=1|0=0&!0=1"};
        boolean[] truth = {true, false, true, false, false, false, true, true, true, true, true, false, true, false, true, false, true, false, true, true, false,
            true, false, false, true, false, false, true, false, false, true, true, true};
        for (int i = 0; i < texts.length; i++) {
            due(texts[i], heard("v1(" + texts[i] + ")"), truth[i] ? 1 : 0);
        }
        for (int n = 0; n <= 35; n++) {
            due(n + " that hold and one more", heard("v5(" + "0=0&".repeat(n) + "0=0);v6(0=0)"), 5);
            due(n + " that hold and one that does not", heard("v5(" + "0=0&".repeat(n) + "0=1);v6(0=0)"), 6);
            due(n + " that do not hold and one that does", heard("v5(" + "0=1|".repeat(n) + "0=0);v6(0=0)"), 5);
            due(n + " that do not hold and one more", heard("v5(" + "0=1|".repeat(n) + "0=1);v6(0=0)"), 6);
        }
    }

    private static void refused() {
        says(9, "what is divided by 0 is REFUSED: then a C does not hold, an E is 0.");
        String[] sums = {"v9/0(0=0)", "v9%0(0=0)", "v0/0(0=0)", "v5+9/[1-1](0=0)", "v9/0+5(0=0)", "v9/0(0=0);v6(0=0)", "v9/1(0=0)", "v9%1+4(0=0)"};
        int[] want = {0, 0, 0, 0, 0, 0, 9, 4};
        for (int i = 0; i < sums.length; i++) {
            due(sums[i], heard(sums[i]), want[i]);
        }
        String[] not = {"1/0=0", "1%0=0", "0/0=0", "0=1/0", "0=0&1/0=0", "0=1|1%0=0", "0*[1/0]=0", "1/[1-1]=0", "1/0=0|0=0", "!1/0=0"};
        for (String c : not) {
            due(c, heard("v5(" + c + ");v6(0=0)"), 6);
        }
        due("in the E of a CLAUSE whose C does not hold", heard("v9/0(0=1);v6(0=0)"), 6);
        due("by a letter that is 0", heard("v5(1/[q-3]=0);v6(0=0)"), 6);
        says(9, "Of a C as much is asked, from the left, as matters.");
        String[] holds = {"0=0|1/0=0", "0=1&1/0=0|0=0", "(0=0|1/0=0)&0=0", "(0=1&1/0=0)|0=0", "!(0=1&1/0=0)", "0=0|0=0&1/0=0", "0=0|0=1|1/0=0", "0=1&0=0&1/0=0|0=0"};
        for (String c : holds) {
            due(c, heard("v5(" + c + ");v6(0=0)"), 5);
        }
        String[] matters = {"0=0&1/0=0|0=0", "0=1|1/0=0|0=0", "(0=1|1/0=0)|0=0", "0=0&(0=0&1/0=0)|0=0"};
        for (String c : matters) {
            due(c, heard("v5(" + c + ");v6(0=0)"), 6);
        }
    }
}
