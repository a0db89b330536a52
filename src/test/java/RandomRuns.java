import java.util.ArrayList;
import java.util.List;
import java.util.Random;

/** Random runs of calls on FogIsland and on NaiveIsland, whose answers must be the same. */
public final class RandomRuns {
    private static final int RUNS = 260;
    private static int wrong = 0;

    private final Random random;
    private final long seed;
    private final FogIsland fog = new FogIsland();
    private final NaiveIsland naive = new NaiveIsland();
    private final List<String> told = new ArrayList<>();
    private boolean failed;

    // Where the crew truly is, so that most notes can hold.
    private int trueCoast;
    private int trueX;
    private int trueY;
    private int hour;
    private int wind;

    // How often something opens in a law: mostly seldom, now and then too deep.
    private int opening = 15;

    private RandomRuns(long seed) {
        this.seed = seed;
        this.random = new Random(seed);
    }

    public static void main(String[] args) {
        int runs = args.length > 0 ? Integer.parseInt(args[0]) : RUNS;
        long from = args.length > 1 ? Long.parseLong(args[1]) : 1;
        long calls = 0;
        for (long seed = from; seed < from + runs; seed++) {
            RandomRuns run = new RandomRuns(seed);
            run.play();
            calls += run.told.size();
        }
        System.out.println(runs + " random runs, " + calls + " calls, " + wrong + " wrong");
        if (wrong != 0) {
            System.exit(1);
        }
    }

    private int pick(int from, int to) {
        return from + random.nextInt(to - from + 1);
    }

    /** Mostly from a range, now and then beside it. */
    private int about(int from, int to) {
        if (random.nextInt(60) == 0) {
            int[] odd = {from - 1, to + 1, Integer.MIN_VALUE, Integer.MAX_VALUE, from - 32, to + 32};
            return odd[random.nextInt(odd.length)];
        }
        return pick(from, to);
    }

    private boolean chance(int percent) {
        return random.nextInt(100) < percent;
    }

    private void same(String call, long got, long want) {
        told.add(call + " = " + want);
        if (got != want && !failed) {
            failed = true;
            wrong++;
            System.out.println("seed " + seed + ": " + call + " answered " + got + ", due is " + want);
            for (int i = Math.max(0, told.size() - 40); i < told.size(); i++) {
                System.out.println("    " + told.get(i));
            }
        }
    }

    private static String call(String name, int... a) {
        StringBuilder b = new StringBuilder(name).append('(');
        for (int i = 0; i < a.length; i++) {
            b.append(i == 0 ? "" : ", ").append(a[i]);
        }
        return b.append(')').toString();
    }

    private void feedBytes(int[] bytes) {
        for (int from = 0; from < bytes.length; from += 20) {
            int[] n = new int[5];
            for (int i = 0; i < 20; i++) {
                int b = from + i < bytes.length ? bytes[from + i] : random.nextInt(4);
                n[i / 4] = n[i / 4] << 8 | b & 255;
            }
            same(call("feed", n), fog.feed(n[0], n[1], n[2], n[3], n[4]), naive.feed(n[0], n[1], n[2], n[3], n[4]));
        }
    }

    private int[] ring(int most, boolean differs) {
        int[] v = new int[most];
        for (int tries = 0; tries < 1000; tries++) {
            boolean good = true;
            for (int i = 0; i < most; i++) {
                v[i] = chance(12) ? (chance(50) ? 0 : 32) : chance(50) ? pick(0, 32) : pick(4, 12);
            }
            for (int i = 0; i < most; i++) {
                good = good && (!differs || v[i] != v[(i + 1) % most]);
            }
            if (good) {
                break;
            }
        }
        return v;
    }

    private void coast() {
        int n = 2 * pick(2, 8);
        int[] x = ring(n / 2, true);
        int[] y = ring(n / 2, true);
        int[] bytes = new int[3 * n];
        for (int i = 0; i < n; i++) {
            bytes[2 * i] = x[(i + 1) / 2 % (n / 2)];
            bytes[2 * i + 1] = y[i / 2];
            bytes[2 * n + i] = chance(55) ? 0 : pick(0, 2);
        }
        if (chance(10)) {
            bytes[random.nextInt(bytes.length)] = chance(50) ? pick(0, 40) : pick(0, 255);
        }
        feedBytes(bytes);
        if (chance(3)) {
            n = about(0, 17);
        }
        same(call("coast", n), fog.coast(n), naive.coast(n));
    }

    private String sum(int depth) {
        StringBuilder b = new StringBuilder(term(depth));
        while (chance(35)) {
            b.append(chance(50) ? '+' : '-').append(term(depth));
        }
        return b.toString();
    }

    private String term(int depth) {
        StringBuilder b = new StringBuilder(factor(depth));
        while (chance(25)) {
            b.append("*/%".charAt(random.nextInt(3))).append(factor(depth));
        }
        return b.toString();
    }

    private String factor(int depth) {
        if (depth < (opening > 15 ? 9 : 6) && chance(opening)) {
            return "[" + sum(depth + 1) + "]";
        }
        if (chance(35)) {
            return chance(80) ? "" + pick(0, 9) : chance(80) ? "" + pick(0, 99999) : "0" + pick(0, 20000);
        }
        return "" + "bkshqdurnd".charAt(random.nextInt(10));
    }

    private String condition(int depth) {
        StringBuilder b = new StringBuilder(piece(depth));
        while (chance(30)) {
            b.append(chance(50) ? '&' : '|').append(piece(depth));
        }
        return b.toString();
    }

    private String piece(int depth) {
        if (depth < (opening > 15 ? 9 : 6) && chance(opening)) {
            return "!" + piece(depth + 1);
        }
        if (depth < (opening > 15 ? 9 : 6) && chance(opening)) {
            return "(" + condition(depth + 1) + ")";
        }
        return sum(depth) + "<>=".charAt(random.nextInt(3)) + sum(depth);
    }

    private String lawText() {
        if (chance(4)) {
            return "v1(1=2);".repeat(pick(9, 13)) + (chance(50) ? "v5(1=1)" : chance(50) ? "" : "w");
        }
        opening = chance(10) ? 50 : 15;
        StringBuilder b = new StringBuilder();
        int clauses = pick(1, 4);
        for (int i = 0; i < clauses; i++) {
            String usual = chance(50) ? "b-d*2-n*3" : chance(50) ? "b-d+h/3-q*u" : "b*4/[d+1]";
            String sum = chance(60) ? usual : sum(0);
            b.append(i == 0 ? "" : ";").append('v').append(sum);
            b.append('(').append(i == clauses - 1 && chance(60) ? "0=0" : condition(1)).append(')');
        }
        return b.toString();
    }

    private void law() {
        StringBuilder b = new StringBuilder(lawText());
        if (chance(15)) {
            int at = random.nextInt(b.length());
            char odd = "v;()[]!&|<>=+-*/%0123456789bkshqdurnx ~".charAt(random.nextInt(39));
            if (chance(40)) {
                b.insert(at, odd);
            } else if (chance(50)) {
                b.deleteCharAt(at);
            } else {
                b.setCharAt(at, chance(90) ? odd : (char) pick(128, 255));
            }
        }
        int n = Math.min(b.length(), 162);
        int[] bytes = new int[n];
        for (int i = 0; i < n; i++) {
            bytes[i] = b.charAt(i);
        }
        if (n > 0) {
            feedBytes(bytes);
        }
        int asked = chance(4) ? n - 1 : chance(3) ? about(0, 161) : n;
        same(call("law", asked) + " of " + b, fog.law(asked), naive.law(asked));
    }

    private void push() {
        int c = about(0, Math.max(0, naive.count(0) - 1));
        int side = about(0, 5);
        int by = about(-9, 9);
        same(call("push", c, side, by), fog.push(c, side, by), naive.push(c, side, by));
    }

    private void sounder() {
        int x = about(0, 31);
        int y = about(0, 31);
        int kind = about(0, 3);
        int loud = about(chance(70) ? 40 : 0, 99);
        same(call("sounder", x, y, kind, loud), fog.sounder(x, y, kind, loud), naive.sounder(x, y, kind, loud));
    }

    private void placeCrew() {
        int coasts = naive.count(0);
        trueCoast = coasts == 0 ? 0 : random.nextInt(coasts);
        for (int tries = 0; tries < 50; tries++) {
            trueX = pick(0, 31);
            trueY = pick(0, 31);
            if (naive.land(trueCoast, trueX, trueY) == 0) {
                break;
            }
        }
    }

    private void line() {
        int dx = about(-9, 9);
        int dy = about(-9, 9);
        int drift = about(0, 3);
        int toX = trueX;
        int toY = trueY;
        for (int tries = 0; tries < 60 && naive.count(4) > 0; tries++) {
            dx = chance(80) ? pick(-3, 3) : pick(-9, 9);
            dy = chance(80) ? pick(-3, 3) : pick(-9, 9);
            drift = pick(0, 3);
            toX = trueX + dx + pick(-drift, drift);
            toY = trueY + dy + pick(-drift, drift);
            if (naive.land(trueCoast, toX, toY) == 0) {
                break;
            }
        }
        int h = about(0, 23);
        int w = about(0, 3);
        int answer = naive.line(dx, dy, drift, h, w);
        same(call("line", dx, dy, drift, h, w), fog.line(dx, dy, drift, h, w), answer);
        if (answer >= 0) {
            hour = h;
            wind = w;
            trueX = Math.max(0, Math.min(31, toX));
            trueY = Math.max(0, Math.min(31, toY));
        }
    }

    private void note() {
        if (chance(50)) {
            int d = about(0, 3);
            int truth = naive.facing(trueCoast, trueX, trueY, d, 2);
            int count = chance(85) && truth >= 0 ? truth : about(0, 64);
            same(call("echo", d, count), fog.echo(d, count), naive.echo(d, count));
        } else {
            int s = about(0, Math.max(0, naive.count(1) - 1));
            int truth = naive.level(trueCoast, s, trueX, trueY, hour, wind);
            int error = about(0, chance(90) ? 12 : 99);
            int level = chance(85) && truth >= 0 ? Math.max(0, Math.min(99, truth + pick(-3, 3))) : about(0, 99);
            same(call("hears", s, level, error), fog.hears(s, level, error), naive.hears(s, level, error));
        }
    }

    private void setting() {
        switch (random.nextInt(4)) {
            case 0:
                same("back()", fog.back(), naive.back());
                break;
            case 1:
                int n = about(0, 3);
                same(call("wrong", n), fog.wrong(n) ? 1 : 0, naive.wrong(n) ? 1 : 0);
                break;
            case 2:
                int x = about(0, 31);
                int y = about(0, 31);
                int toX = chance(5) ? about(0, 31) : about(Math.max(0, Math.min(31, x)), 31);
                int toY = chance(5) ? about(0, 31) : about(Math.max(0, Math.min(31, y)), 31);
                if (chance(30)) {
                    x = Math.max(0, trueX - 3);
                    toX = Math.min(31, trueX + 3);
                    y = Math.max(0, trueY - 3);
                    toY = Math.min(31, trueY + 3);
                }
                same(call("box", x, y, toX, toY), fog.box(x, y, toX, toY) ? 1 : 0, naive.box(x, y, toX, toY) ? 1 : 0);
                break;
            default:
                choice();
        }
    }

    private void choice() {
        int i = about(0, 5);
        int dx = about(-9, 9);
        int dy = about(-9, 9);
        int d = about(0, 3);
        same(call("choice", i, dx, dy, d), fog.choice(i, dx, dy, d) ? 1 : 0, naive.choice(i, dx, dy, d) ? 1 : 0);
    }

    private void checkRows() {
        int c = about(0, Math.max(0, naive.count(0) - 1));
        int n = chance(60) ? 32 : about(0, 33);
        int[] bytes = new int[128];
        for (int y = 0; y < 32; y++) {
            for (int x = 0; x < 32; x++) {
                if (naive.land(c, x, y) == 1) {
                    bytes[4 * y + 3 - x / 8] |= 1 << x % 8;
                }
            }
        }
        if (chance(40)) {
            bytes[random.nextInt(128)] ^= 1 << random.nextInt(8);
        }
        feedBytes(bytes);
        same(call("check", c, n), fog.check(c, n), naive.check(c, n));
    }

    private void askCoast() {
        int c = about(0, Math.max(0, naive.count(0) - 1));
        int x = about(0, 31);
        int y = about(0, 31);
        int d = about(0, 3);
        int what = about(0, 2);
        int s = about(0, Math.max(0, naive.count(1) - 1));
        int h = about(0, 23);
        int w = about(0, 3);
        same(call("land", c, x, y), fog.land(c, x, y), naive.land(c, x, y));
        same(call("facing", c, x, y, d, what), fog.facing(c, x, y, d, what), naive.facing(c, x, y, d, what));
        same(call("level", c, s, x, y, h, w), fog.level(c, s, x, y, h, w), naive.level(c, s, x, y, h, w));
    }

    private void askFit() {
        int c = chance(15) ? -1 : about(0, Math.max(0, naive.count(0) - 1));
        int l = about(0, Math.max(0, naive.count(4) - 1));
        int x = chance(50) ? trueX : about(0, 31);
        int y = chance(50) ? trueY : about(0, 31);
        switch (random.nextInt(4)) {
            case 0:
                same(call("fits", c), fog.fits(c), naive.fits(c));
                break;
            case 1:
                same(call("firstBad", c), fog.firstBad(c), naive.firstBad(c));
                break;
            case 2:
                same(call("possible", c, l), fog.possible(c, l), naive.possible(c, l));
                break;
            default:
                same(call("isPossible", c, l, x, y), fog.isPossible(c, l, x, y), naive.isPossible(c, l, x, y));
        }
    }

    private void askAll() {
        int x = about(0, 31);
        int y = about(0, 31);
        int what;
        switch (random.nextInt(6)) {
            case 0:
                what = about(0, 2);
                same(call("sure", x, y, what), fog.sure(x, y, what), naive.sure(x, y, what));
                break;
            case 1:
                what = about(0, 3);
                same(call("next", what), fog.next(what), naive.next(what));
                break;
            case 2:
                what = about(0, 1);
                same(call("ahead", what), fog.ahead(what), naive.ahead(what));
                break;
            case 3:
                int toX = about(0, 31);
                int toY = about(0, 31);
                int most = Math.max(0, naive.wayIn(x, y, toX, toY, 100));
                for (what = -1; what <= most && what < 101; what += pick(1, 9)) {
                    same(call("wayIn", x, y, toX, toY, what), fog.wayIn(x, y, toX, toY, what), naive.wayIn(x, y, toX, toY, what));
                }
                what = chance(50) ? 100 : about(-1, 100);
                same(call("wayIn", x, y, toX, toY, what), fog.wayIn(x, y, toX, toY, what), naive.wayIn(x, y, toX, toY, what));
                break;
            case 4:
                what = about(0, 2);
                same(call("pool", x, y, what), fog.pool(x, y, what), naive.pool(x, y, what));
                break;
            default:
                what = about(0, 18);
                same(call("count", what), fog.count(what), naive.count(what));
        }
    }

    private void play() {
        int coasts = pick(0, 5);
        for (int i = 0; i < coasts; i++) {
            coast();
        }
        for (int i = pick(0, 3); i > 0; i--) {
            push();
        }
        for (int i = pick(0, 6); i > 0; i--) {
            sounder();
        }
        law();
        placeCrew();
        for (int i = chance(70) ? pick(1, 6) : 0; i > 0; i--) {
            choice();
        }
        int calls = pick(20, 110);
        for (int i = 0; i < calls && !failed; i++) {
            int kind = random.nextInt(100);
            if (kind < 2) {
                coast();
            } else if (kind < 4) {
                push();
            } else if (kind < 6) {
                sounder();
            } else if (kind < 9) {
                law();
            } else if (kind < 17) {
                line();
            } else if (kind < 32) {
                note();
            } else if (kind < 45) {
                setting();
            } else if (kind < 47) {
                checkRows();
            } else if (kind < 62) {
                askCoast();
            } else if (kind < 80) {
                askFit();
            } else {
                askAll();
            }
        }
    }
}
