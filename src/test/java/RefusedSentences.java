import java.util.ArrayList;
import java.util.List;
import java.util.function.Supplier;

/**
 * "A call that is refused (NONE, false) changes nothing but the tape, where it is told": by promise, each kind of
 * refusal is played on a full life of an object, which must then answer all that can be asked as its twin does.
 */
final class RefusedSentences extends Sentences {
    private static final String WORDS = "A call that is refused (NONE, false) changes nothing but the tape, where it is told.";
    private static final String TWENTY = "v12345-12300+4(0=00)";

    private RefusedSentences() {
    }

    interface Call {
        int on(FogIsland f);
    }

    static void all() {
        tellingRefused();
        tellingFull();
        askingRefused();
        faultsEmptyTheTapeAlone();
    }

    /** Two coasts, two sounders, a law, two lines with notes, two choices, and a tape that is a law. */
    private static FogIsland halfFull() {
        FogIsland f = withSquare();
        f.push(0, 1, 3);
        f.sounder(25, 15, 1, 90);
        f.sounder(3, 3, 2, 80);
        law(f, "vb-d-n(k=1);vb/2(0=0)");
        f.box(0, 0, 25, 25);
        f.wrong(1);
        f.line(0, 0, 0, 5, 2);
        f.hears(0, 60, 9);
        f.line(2, -1, 2, 6, 1);
        f.echo(0, 0);
        f.hears(1, 40, 3);
        f.choice(0, 1, 1, 1);
        f.choice(3, -2, 0, 2);
        feedText(f, TWENTY);
        return f;
    }

    /** Half full, with a coast near the edge and a narrow one. */
    private static FogIsland nearTheEdge() {
        FogIsland f = halfFull();
        f.push(0, 0, -9);
        f.push(0, 1, -9);
        return f;
    }

    /** As many of all as there can be. */
    private static FogIsland full() {
        FogIsland f = withSquare();
        for (int i = 1; i < 8; i++) {
            f.push(0, i & 3, i > 3 ? 1 : 2);
        }
        for (int i = 0; i < 6; i++) {
            f.sounder(5 * i, 31 - i, i & 3, 90 - i);
            f.choice(i, i - 3, 2 - i, i & 3);
        }
        law(f, "vb-s(0=1);".repeat(11) + "vb-d(0=0)");
        for (int i = 0; i < 12; i++) {
            f.line(i % 3 - 1, 1 - i % 3, 1, i, i & 3);
        }
        for (int i = 0; i < 3; i++) {
            f.hears(i, 60, 40);
            f.echo(3, 0);
        }
        feedText(f, TWENTY.repeat(11));
        return f;
    }

    /** All that can be asked, in some 250 calls; last what the tape holds. */
    private static List<Integer> life(FogIsland f) {
        List<Integer> l = new ArrayList<>();
        for (int what = 0; what < 18; what++) {
            l.add(f.count(what));
        }
        for (int c = 0; c < 8; c++) {
            l.add(f.land(c, 10 + c, 10) + 2 * f.land(c, 20, 12) + 4 * f.land(c, 21, 20));
            l.add(f.facing(c, 15, 2, 0, 0) + 100 * f.facing(c, 28, 15, 3, 1) + 1000 * f.facing(c, 15, 30, 2, 2));
            l.add(f.level(c, c % 6, 4, 15, 7, 1));
            l.add(f.fits(c));
            l.add(f.firstBad(c));
            for (int line : new int[] {0, 1, 11}) {
                l.add(f.possible(c, line));
                l.add(f.isPossible(c, line, 5, 5));
            }
        }
        for (int what = 0; what < 3; what++) {
            l.add(f.sure(21, 15, what));
            l.add(f.pool(0, 0, what));
            l.add(f.next(what + 1));
            l.add(f.ahead(what));
            l.add(f.wayIn(9, 9, 25, 25, 50 * what));
        }
        for (int i = 0; i < 6; i++) {
            l.add(f.choice(i, 9, 9, 0) ? f.next(0) * 10000 + f.next(1) : -9);
        }
        int bytes = f.count(3);
        l.add(f.law(Math.min(160, bytes)));
        l.add(f.level(0, 0, 0, 0, 0, 0));
        while (f.count(4) > 0) {
            l.add(f.back() * 100 + f.count(5));
            l.add(f.count(8));
        }
        return l;
    }

    private static void leavesAll(String name, Supplier<FogIsland> world, Call call, int refused) {
        FogIsland f = world.get();
        due(name, call.on(f), refused);
        List<Integer> want = life(world.get());
        List<Integer> got = life(f);
        int first = -1;
        for (int i = want.size() - 1; i >= 0; i--) {
            if (i >= got.size() || !want.get(i).equals(got.get(i))) {
                first = i;
            }
        }
        due("the first answer that is another one behind " + name, first, -1);
        due("answers behind " + name, got.size(), want.size());
    }

    private static void refused(int promise, String name, int answer, Call... calls) {
        says(promise, WORDS);
        for (int i = 0; i < calls.length; i++) {
            leavesAll(name + " (" + i + ")", RefusedSentences::halfFull, calls[i], answer);
        }
    }

    private static void refusedWhenFull(int promise, String name, Call... calls) {
        says(promise, WORDS);
        for (int i = 0; i < calls.length; i++) {
            leavesAll(name + " when full (" + i + ")", RefusedSentences::full, calls[i], -1);
        }
    }

    private static void tellingRefused() {
        refused(3, "coast", -1, f -> f.coast(2), f -> f.coast(3), f -> f.coast(5), f -> f.coast(8), f -> f.coast(18), f -> f.coast(MOST));
        refused(4, "law", -1, f -> f.law(0), f -> f.law(21), f -> f.law(161), f -> f.law(LEAST));
        refused(5, "push", -1, f -> f.push(2, 0, 1), f -> f.push(-1, 0, 1), f -> f.push(0, 4, 1), f -> f.push(0, -1, 1), f -> f.push(0, 0, 0),
            f -> f.push(0, 0, 10), f -> f.push(0, 0, -10));
        leavesAll("push beyond the edge", RefusedSentences::nearTheEdge, f -> f.push(2, 0, -2), -2);
        leavesAll("push to a side of length 0", RefusedSentences::nearTheEdge, f -> f.push(3, 1, -1), -2);
        refused(8, "sounder", -1, f -> f.sounder(32, 0, 0, 0), f -> f.sounder(0, -1, 0, 0), f -> f.sounder(0, 0, 4, 0), f -> f.sounder(0, 0, 0, 100));
        refused(10, "line", -1, f -> f.line(10, 0, 0, 0, 0), f -> f.line(0, -10, 0, 0, 0), f -> f.line(0, 0, 4, 0, 0), f -> f.line(0, 0, 0, 24, 0),
            f -> f.line(0, 0, 0, 0, 4));
        refused(11, "hears", -1, f -> f.hears(2, 0, 0), f -> f.hears(-1, 0, 0), f -> f.hears(0, 100, 0), f -> f.hears(0, 0, 100), f -> f.hears(0, 0, -1));
        refused(12, "echo", -1, f -> f.echo(4, 0), f -> f.echo(-1, 0), f -> f.echo(0, 65), f -> f.echo(0, -1));
        refused(14, "wrong", 0, f -> asInt(f.wrong(4)), f -> asInt(f.wrong(-1)));
        refused(15, "box", 0, f -> asInt(f.box(1, 0, 0, 0)), f -> asInt(f.box(0, 1, 0, 0)), f -> asInt(f.box(0, 0, 32, 0)), f -> asInt(f.box(0, -1, 0, 0)));
        refused(21, "choice", 0, f -> asInt(f.choice(6, 0, 0, 0)), f -> asInt(f.choice(0, 10, 0, 0)), f -> asInt(f.choice(0, 0, -10, 0)),
            f -> asInt(f.choice(0, 0, 0, 4)));
        refused(26, "check", -2, f -> f.check(2, 0), f -> f.check(0, 33), f -> f.check(0, 6), f -> f.check(0, -1));
        says(13, WORDS);
        FogIsland f = withSquare();
        due("back without a LINE", f.back(), -1);
        due("no LINES", f.count(4), 0);
        due("the first one is LINE 0", f.line(0, 0, 0, 0, 0), 0);
    }

    private static void tellingFull() {
        refusedWhenFull(2, "feed", f -> f.feed(-1, -1, -1, -1, -1));
        refusedWhenFull(3, "coast", f -> f.coast(4), f -> f.coast(16));
        refusedWhenFull(5, "push", f -> f.push(0, 0, 1), f -> f.push(7, 1, 1));
        refusedWhenFull(8, "sounder", f -> f.sounder(0, 0, 0, 0));
        refusedWhenFull(10, "line", f -> f.line(0, 0, 0, 0, 0));
        refusedWhenFull(11, "hears", f -> f.hears(0, 0, 0));
        refusedWhenFull(12, "echo", f -> f.echo(0, 64));
    }

    private static void askingRefused() {
        refused(6, "land", -1, f -> f.land(2, 0, 0), f -> f.land(0, 32, 0));
        refused(7, "facing", -1, f -> f.facing(0, 0, 0, 4, 0), f -> f.facing(0, 0, 32, 0, 0));
        refused(9, "level", -1, f -> f.level(0, 2, 0, 0, 0, 0), f -> f.level(0, 0, 0, 0, 24, 0));
        refused(16, "fits", -1, f -> f.fits(2), f -> f.fits(-1));
        refused(17, "firstBad", -1, f -> f.firstBad(2), f -> f.firstBad(-1));
        refused(18, "possible", -2, f -> f.possible(2, 0), f -> f.possible(0, 2), f -> f.possible(-2, 0));
        refused(19, "isPossible", -1, f -> f.isPossible(2, 0, 0, 0), f -> f.isPossible(0, 2, 0, 0));
        refused(20, "sure", -3, f -> f.sure(32, 0, 0), f -> f.sure(0, 0, 3));
        refused(22, "next", -1, f -> f.next(4), f -> f.next(-1));
        refused(23, "ahead", -1, f -> f.ahead(2), f -> f.ahead(-1));
        refused(24, "wayIn", -1, f -> f.wayIn(32, 0, 0, 0, 0), f -> f.wayIn(0, 0, 1, 1, 101));
        refused(25, "pool", -1, f -> f.pool(32, 0, 0), f -> f.pool(0, 0, 3));
        refused(27, "count", -1, f -> f.count(9), f -> f.count(-1), f -> f.count(18));
    }

    /** A place that can't be, or a fault, is no refusal: the tape is empty then, and all else as it was. */
    private static void faultsEmptyTheTapeAlone() {
        says(3, "(x, y of each, then the SORTS; empty then): its number; else -1000 less the first place that can't be");
        leavesAllButTheTape("coast", f -> f.coast(6), -1000);
        says(4, "a FAULT: -1000 times its number, less its place (the TEXT before stays)");
        leavesAllButTheTape("law", f -> f.law(19), -1019);
    }

    private static void leavesAllButTheTape(String name, Call call, int answer) {
        FogIsland f = halfFull();
        due(name, call.on(f), answer);
        due("the tape", f.count(3), 0);
        feedText(f, TWENTY);
        due("all else is as it was (1)", life(f).equals(life(halfFull())), true);
    }
}
