import java.util.ArrayList;
import java.util.Arrays;
import java.util.HashMap;
import java.util.List;
import java.util.Map;
import java.util.PriorityQueue;
import java.util.TreeMap;

/**
 * The document once more, written as slowly and plainly as can be, without a cache and with other
 * algorithms than FogIsland's, so that RandomRuns can hold the one against the other.
 */
final class NaiveIsland {
    static final int NONE = -1;
    private static final int[] DX = {0, 1, 0, -1};
    private static final int[] DY = {1, 0, -1, 0};

    record Ring(int[] x, int[] y, int[] sort) { }

    record Source(int x, int y, int kind, int loudness) { }

    record Note(boolean echo, int subject, int amount, int error) { }

    record Line(int dx, int dy, int drift, int hour, int wind, List<Note> notes) { }

    record Choice(int dx, int dy, int direction) { }

    record State(int coast, int x, int y) { }

    private static final class Fault extends RuntimeException {
        private static final long serialVersionUID = 1;

        final int number;
        final int place;

        Fault(int number, int place) {
            this.number = number;
            this.place = place;
        }
    }

    private static final class Refused extends RuntimeException {
        private static final long serialVersionUID = 1;
    }

    private List<Integer> tape = new ArrayList<>();
    private final List<Ring> coasts = new ArrayList<>();
    private final List<Source> sources = new ArrayList<>();
    private final List<Line> lines = new ArrayList<>();
    private final Choice[] choices = new Choice[6];
    private String text = "";
    private int clauses;
    private int wrongs;
    private int[] box = {0, 0, 31, 31};

    private static boolean in(int v, int from, int to) {
        return from <= v && v <= to;
    }

    private static boolean cell(int x, int y) {
        return in(x, 0, 31) && in(y, 0, 31);
    }

    private boolean isCoast(int c) {
        return in(c, 0, coasts.size() - 1);
    }

    int feed(int a, int b, int c, int d, int e) {
        if (tape.size() + 20 > 220) {
            return NONE;
        }
        for (int v : new int[] {a, b, c, d, e}) {
            tape.add((v >> 24) & 255);
            tape.add((v >> 16) & 255);
            tape.add((v >> 8) & 255);
            tape.add(v & 255);
        }
        return tape.size();
    }

    int coast(int n) {
        if (n < 4 || n > 16 || n % 2 != 0 || coasts.size() == 8 || tape.size() < 3 * n) {
            return NONE;
        }
        List<Integer> t = tape;
        tape = new ArrayList<>();
        for (int i = 0; i < n; i++) {
            int x = t.get(2 * i);
            int y = t.get(2 * i + 1);
            if (x > 32) {
                return -1000 - 2 * i;
            }
            if (y > 32) {
                return -1000 - 2 * i - 1;
            }
            if (i > 0) {
                int px = t.get(2 * i - 2);
                int py = t.get(2 * i - 1);
                boolean alongX = i % 2 == 1;
                if (alongX ? (y != py || x == px) : (x != px || y == py)) {
                    return -1000 - 2 * i;
                }
            }
            if (i == n - 1 && (x != t.get(0) || y == t.get(1))) {
                return -1000 - 2 * i;
            }
        }
        for (int i = 2 * n; i < 3 * n; i++) {
            if (t.get(i) > 2) {
                return -1000 - i;
            }
        }
        int[] x = new int[n];
        int[] y = new int[n];
        int[] sort = new int[n];
        for (int i = 0; i < n; i++) {
            x[i] = t.get(2 * i);
            y[i] = t.get(2 * i + 1);
            sort[i] = t.get(2 * n + i);
        }
        coasts.add(new Ring(x, y, sort));
        return coasts.size() - 1;
    }

    int law(int n) {
        if (n < 1 || n > 160 || tape.size() < n) {
            return NONE;
        }
        StringBuilder b = new StringBuilder();
        for (int i = 0; i < n; i++) {
            b.append((char) (int) tape.get(i));
        }
        tape = new ArrayList<>();
        try {
            Parser p = new Parser(b.toString(), null);
            int found = p.syntax();
            text = b.toString();
            clauses = found;
            return found;
        } catch (Fault f) {
            return -1000 * f.number - f.place;
        }
    }

    /** Reads and, given letters, reckons straight from the text. */
    private static final class Parser {
        final String t;
        final Map<Character, Integer> letters;
        int p;

        Parser(String t, Map<Character, Integer> letters) {
            this.t = t;
            this.letters = letters;
        }

        char peek() {
            return p < t.length() ? t.charAt(p) : (char) 999;
        }

        void want(char c) {
            if (peek() != c) {
                throw new Fault(1, p);
            }
            p++;
        }

        int syntax() {
            int n = 0;
            while (true) {
                if (peek() != 'v') {
                    throw new Fault(1, p);
                }
                if (++n > 12) {
                    throw new Fault(4, p);
                }
                p++;
                sum(0, false);
                want('(');
                cond(1, false);
                want(')');
                if (p == t.length()) {
                    return n;
                }
                want(';');
            }
        }

        int level() {
            while (p < t.length()) {
                want('v');
                int sumAt = p;
                sum(0, false);
                want('(');
                boolean holds;
                int condAt = p;
                cond(1, false);
                int end = p;
                p = condAt;
                try {
                    holds = cond(1, true);
                } catch (Refused r) {
                    holds = false;
                }
                p = end;
                want(')');
                if (holds) {
                    p = sumAt;
                    try {
                        return Math.max(0, Math.min(99, sum(0, true)));
                    } catch (Refused r) {
                        return 0;
                    }
                }
                if (p < t.length()) {
                    want(';');
                }
            }
            return 0;
        }

        boolean cond(int depth, boolean live) {
            boolean any = part(depth, live);
            while (peek() == '|') {
                p++;
                boolean more = part(depth, live && !any);
                any = any || more;
            }
            return any;
        }

        boolean part(int depth, boolean live) {
            boolean all = piece(depth, live);
            while (peek() == '&') {
                p++;
                boolean more = piece(depth, live && all);
                all = all && more;
            }
            return all;
        }

        boolean piece(int depth, boolean live) {
            char c = peek();
            if (c == '!' || c == '(') {
                if (depth + 1 > 6) {
                    throw new Fault(5, p);
                }
                p++;
                if (c == '!') {
                    return !piece(depth + 1, live);
                }
                boolean v = cond(depth + 1, live);
                want(')');
                return v;
            }
            int a = sum(depth, live);
            char op = peek();
            if (op != '<' && op != '>' && op != '=') {
                throw new Fault(1, p);
            }
            p++;
            int b = sum(depth, live);
            return op == '<' ? a < b : op == '>' ? a > b : a == b;
        }

        int sum(int depth, boolean live) {
            int v = term(depth, live);
            while (peek() == '+' || peek() == '-') {
                char op = peek();
                p++;
                int w = term(depth, live);
                v = op == '+' ? v + w : v - w;
            }
            return v;
        }

        int term(int depth, boolean live) {
            int v = factor(depth, live);
            while (peek() == '*' || peek() == '/' || peek() == '%') {
                char op = peek();
                p++;
                int w = factor(depth, live);
                if (op == '*') {
                    v = v * w;
                } else if (w == 0) {
                    if (live) {
                        throw new Refused();
                    }
                } else {
                    v = op == '/' ? v / w : v % w;
                }
            }
            return v;
        }

        int factor(int depth, boolean live) {
            char c = peek();
            if (c == '[') {
                if (depth + 1 > 6) {
                    throw new Fault(5, p);
                }
                p++;
                int v = sum(depth + 1, live);
                want(']');
                return v;
            }
            if (c >= '0' && c <= '9') {
                int from = p;
                while (peek() >= '0' && peek() <= '9') {
                    if (p - from == 5) {
                        throw new Fault(2, p);
                    }
                    p++;
                }
                return Integer.parseInt(t.substring(from, p));
            }
            if (c < 128 && "bkshqdurn".indexOf(c) >= 0) {
                p++;
                return letters == null ? 1 : letters.get(c);
            }
            throw new Fault(1, p);
        }
    }

    int push(int c, int side, int by) {
        if (!isCoast(c) || !in(side, 0, coasts.get(c).x.length - 1) || by == 0 || !in(by, -9, 9) || coasts.size() == 8) {
            return NONE;
        }
        Ring old = coasts.get(c);
        int n = old.x.length;
        int[] x = old.x.clone();
        int[] y = old.y.clone();
        int other = (side + 1) % n;
        if (side % 2 == 1) {
            x[side] += by;
            x[other] += by;
        } else {
            y[side] += by;
            y[other] += by;
        }
        for (int i = 0; i < n; i++) {
            int j = (i + 1) % n;
            if (!in(x[i], 0, 32) || !in(y[i], 0, 32) || (x[i] == x[j] && y[i] == y[j])) {
                return -2;
            }
        }
        coasts.add(new Ring(x, y, old.sort.clone()));
        return coasts.size() - 1;
    }

    private boolean isLand(int c, int x, int y) {
        Ring r = coasts.get(c);
        int n = r.x.length;
        int crossed = 0;
        for (int i = 0; i < n; i++) {
            int j = (i + 1) % n;
            boolean alongY = r.x[i] == r.x[j];
            if (alongY && r.x[i] <= x && Math.min(r.y[i], r.y[j]) <= y && Math.max(r.y[i], r.y[j]) >= y + 1) {
                crossed++;
            }
        }
        return crossed % 2 == 1;
    }

    int land(int c, int x, int y) {
        return !isCoast(c) || !cell(x, y) ? NONE : isLand(c, x, y) ? 1 : 0;
    }

    /** Steps and sort of what is faced from water; null: no land. */
    private int[] faced(int c, int x, int y, int d) {
        Ring r = coasts.get(c);
        int n = r.x.length;
        for (int k = 1; ; k++) {
            int lx = x + k * DX[d];
            int ly = y + k * DY[d];
            if (!cell(lx, ly)) {
                return null;
            }
            if (isLand(c, lx, ly)) {
                int wx = lx - DX[d];
                int wy = ly - DY[d];
                for (int i = 0; i < n; i++) {
                    int j = (i + 1) % n;
                    boolean between;
                    if (wx == lx) {
                        int edge = Math.max(wy, ly);
                        between = r.y[i] == edge && r.y[j] == edge && Math.min(r.x[i], r.x[j]) <= lx && Math.max(r.x[i], r.x[j]) > lx;
                    } else {
                        int edge = Math.max(wx, lx);
                        between = r.x[i] == edge && r.x[j] == edge && Math.min(r.y[i], r.y[j]) <= ly && Math.max(r.y[i], r.y[j]) > ly;
                    }
                    if (between) {
                        return new int[] {k, r.sort[i]};
                    }
                }
                throw new IllegalStateException("land without a side before it");
            }
        }
    }

    int facing(int c, int x, int y, int direction, int what) {
        if (!isCoast(c) || !cell(x, y) || !in(direction, 0, 3) || !in(what, 0, 2)) {
            return NONE;
        }
        if (isLand(c, x, y)) {
            return -3;
        }
        int[] f = faced(c, x, y, direction);
        if (what == 0) {
            return f == null ? 0 : f[0];
        }
        if (what == 1) {
            return f == null ? -2 : f[1];
        }
        return f == null || f[1] == 1 ? 0 : 2 * f[0];
    }

    int sounder(int x, int y, int kind, int loudness) {
        if (!cell(x, y) || !in(kind, 0, 3) || !in(loudness, 0, 99) || sources.size() == 6) {
            return NONE;
        }
        sources.add(new Source(x, y, kind, loudness));
        return sources.size() - 1;
    }

    int level(int c, int s, int x, int y, int hour, int wind) {
        if (!isCoast(c) || !in(s, 0, sources.size() - 1) || !cell(x, y) || !in(hour, 0, 23) || !in(wind, 0, 3)) {
            return NONE;
        }
        Source src = sources.get(s);
        int between = 0;
        int wx = x;
        int wy = y;
        while (wx != src.x || wy != src.y) {
            if (wx != src.x) {
                wx += Integer.signum(src.x - wx);
            } else {
                wy += Integer.signum(src.y - wy);
            }
            boolean end = wx == src.x && wy == src.y;
            if (!end && isLand(c, wx, wy)) {
                between++;
            }
        }
        Map<Character, Integer> l = new HashMap<>();
        l.put('b', src.loudness);
        l.put('k', src.kind);
        l.put('s', s);
        l.put('h', hour);
        l.put('q', wind);
        l.put('d', Math.abs(src.x - x) + Math.abs(src.y - y));
        l.put('u', src.y - y);
        l.put('r', src.x - x);
        l.put('n', between);
        return new Parser(text, l).level();
    }

    int line(int dx, int dy, int drift, int hour, int wind) {
        if (!in(dx, -9, 9) || !in(dy, -9, 9) || !in(drift, 0, 3) || !in(hour, 0, 23) || !in(wind, 0, 3) || lines.size() == 12) {
            return NONE;
        }
        lines.add(new Line(dx, dy, drift, hour, wind, new ArrayList<>()));
        return lines.size() - 1;
    }

    private int note(Note n) {
        if (lines.isEmpty() || lines.get(lines.size() - 1).notes.size() == 6) {
            return NONE;
        }
        lines.get(lines.size() - 1).notes.add(n);
        return lines.get(lines.size() - 1).notes.size();
    }

    int hears(int s, int level, int error) {
        if (!in(s, 0, sources.size() - 1) || !in(level, 0, 99) || !in(error, 0, 99)) {
            return NONE;
        }
        return note(new Note(false, s, level, error));
    }

    int echo(int direction, int count) {
        return !in(direction, 0, 3) || !in(count, 0, 64) ? NONE : note(new Note(true, direction, count, 0));
    }

    int back() {
        if (lines.isEmpty()) {
            return NONE;
        }
        lines.remove(lines.size() - 1);
        return lines.size();
    }

    boolean wrong(int n) {
        if (in(n, 0, 3)) {
            wrongs = n;
            return true;
        }
        return false;
    }

    boolean box(int x, int y, int toX, int toY) {
        if (!cell(x, y) || !cell(toX, toY) || x > toX || y > toY) {
            return false;
        }
        box = new int[] {x, y, toX, toY};
        return true;
    }

    /** How many notes of a line do not hold at a water cell. */
    private int misses(int c, Line l, int x, int y) {
        int sum = 0;
        for (Note n : l.notes) {
            boolean holds;
            if (n.echo) {
                int[] f = faced(c, x, y, n.subject);
                boolean comes = f != null && f[1] != 1 && 2 * f[0] == n.amount;
                boolean silent = n.amount == 0 && (f == null || f[1] != 0);
                holds = comes || silent;
            } else {
                holds = Math.abs(level(c, n.subject, x, y, l.hour, l.wind) - n.amount) <= n.error;
            }
            sum += holds ? 0 : 1;
        }
        return sum;
    }

    /** By line and cell the fewest misses of a placing of the first lines that is there (99: none). */
    private int[][] forth(int c, int[][] own) {
        int[][] f = new int[lines.size()][1024];
        for (int i = 0; i < lines.size(); i++) {
            Arrays.fill(f[i], 99);
            Line l = lines.get(i);
            for (int to = 0; to < 1024; to++) {
                int x = to % 32;
                int y = to / 32;
                if (isLand(c, x, y)) {
                    continue;
                }
                int before = 99;
                if (i == 0) {
                    before = in(x, box[0], box[2]) && in(y, box[1], box[3]) ? 0 : 99;
                } else {
                    for (int a = -l.drift; a <= l.drift; a++) {
                        for (int b = -l.drift; b <= l.drift; b++) {
                            if (cell(x - l.dx - a, y - l.dy - b)) {
                                before = Math.min(before, f[i - 1][(y - l.dy - b) * 32 + x - l.dx - a]);
                            }
                        }
                    }
                }
                if (before <= wrongs) {
                    own[i][to] = misses(c, l, x, y);
                    f[i][to] = before + own[i][to];
                }
            }
        }
        return f;
    }

    private boolean[][] possibleCells(int c) {
        int n = lines.size();
        int[][] own = new int[n][1024];
        int[][] f = forth(c, own);
        boolean[][] p = new boolean[n][1024];
        int[] later = new int[1024];
        for (int i = n - 1; i >= 0; i--) {
            int[] here = new int[1024];
            for (int at = 0; at < 1024; at++) {
                here[at] = i == n - 1 ? 0 : 99;
                if (i < n - 1) {
                    Line l = lines.get(i + 1);
                    for (int a = -l.drift; a <= l.drift; a++) {
                        for (int b = -l.drift; b <= l.drift; b++) {
                            int x = at % 32 + l.dx + a;
                            int y = at / 32 + l.dy + b;
                            if (cell(x, y) && f[i + 1][y * 32 + x] < 99) {
                                here[at] = Math.min(here[at], later[y * 32 + x] + own[i + 1][y * 32 + x]);
                            }
                        }
                    }
                }
                p[i][at] = f[i][at] + here[at] <= wrongs;
            }
            later = here;
        }
        return p;
    }

    private int bad(int c) {
        int[][] f = forth(c, new int[lines.size()][1024]);
        for (int i = 0; i < f.length; i++) {
            if (Arrays.stream(f[i]).min().getAsInt() > wrongs) {
                return i;
            }
        }
        return -2;
    }

    int fits(int c) {
        return !isCoast(c) ? NONE : bad(c) == -2 ? 1 : 0;
    }

    int firstBad(int c) {
        return !isCoast(c) ? NONE : bad(c);
    }

    int possible(int c, int line) {
        if ((c != NONE && !isCoast(c)) || !in(line, 0, lines.size() - 1)) {
            return -2;
        }
        int sum = 0;
        for (int i = 0; i < coasts.size(); i++) {
            if (c == NONE || c == i) {
                for (boolean b : possibleCells(i)[line]) {
                    sum += b ? 1 : 0;
                }
            }
        }
        return sum;
    }

    int isPossible(int c, int line, int x, int y) {
        if (!isCoast(c) || !in(line, 0, lines.size() - 1) || !cell(x, y)) {
            return NONE;
        }
        return possibleCells(c)[line][y * 32 + x] ? 1 : 0;
    }

    private List<Integer> fitting() {
        List<Integer> l = new ArrayList<>();
        for (int c = 0; c < coasts.size(); c++) {
            if (bad(c) == -2) {
                l.add(c);
            }
        }
        return l;
    }

    int sure(int x, int y, int what) {
        if (!cell(x, y) || !in(what, 0, 2)) {
            return -3;
        }
        List<Integer> fit = fitting();
        if (fit.isEmpty()) {
            return -2;
        }
        int land = NONE;
        int water = NONE;
        for (int c : fit) {
            if (isLand(c, x, y)) {
                land = land == NONE ? c : land;
            } else {
                water = water == NONE ? c : water;
            }
        }
        return what == 1 ? land : what == 2 ? water : water == NONE ? 0 : land == NONE ? 1 : 2;
    }

    boolean choice(int i, int dx, int dy, int direction) {
        if (!in(i, 0, 5) || !in(dx, -9, 9) || !in(dy, -9, 9) || !in(direction, 0, 3)) {
            return false;
        }
        choices[i] = new Choice(dx, dy, direction);
        return true;
    }

    private List<State> states() {
        List<State> l = new ArrayList<>();
        if (lines.isEmpty()) {
            return l;
        }
        for (int c = 0; c < coasts.size(); c++) {
            boolean[] now = possibleCells(c)[lines.size() - 1];
            for (int at = 0; at < 1024; at++) {
                if (now[at]) {
                    l.add(new State(c, at % 32, at / 32));
                }
            }
        }
        return l;
    }

    /** The states by answer, each where it is behind the move. */
    private TreeMap<Integer, List<State>> byAnswer(List<State> states, Choice ch) {
        TreeMap<Integer, List<State>> m = new TreeMap<>();
        for (State s : states) {
            State t = new State(s.coast, s.x + ch.dx, s.y + ch.dy);
            if (!cell(t.x, t.y) || isLand(t.coast, t.x, t.y)) {
                continue;
            }
            int[] f = faced(t.coast, t.x, t.y, ch.direction);
            if (f != null && f[1] != 1) {
                m.computeIfAbsent(2 * f[0], k -> new ArrayList<>()).add(t);
            }
            if (f == null || f[1] != 0) {
                m.computeIfAbsent(0, k -> new ArrayList<>()).add(t);
            }
        }
        return m;
    }

    private static int largest(Map<Integer, List<State>> m) {
        return m.values().stream().mapToInt(List::size).max().orElse(0);
    }

    private boolean noChoice() {
        return Arrays.stream(choices).allMatch(c -> c == null);
    }

    int next(int what) {
        if (!in(what, 0, 3)) {
            return NONE;
        }
        List<State> states = states();
        if (noChoice() || states.isEmpty()) {
            return -2;
        }
        int best = NONE;
        TreeMap<Integer, List<State>> kept = null;
        for (int i = 0; i < 6; i++) {
            if (choices[i] != null) {
                TreeMap<Integer, List<State>> m = byAnswer(states, choices[i]);
                if (kept == null || largest(m) < largest(kept)) {
                    kept = m;
                    best = i;
                }
            }
        }
        if (what == 0) {
            return best;
        }
        if (what == 3) {
            return states.size();
        }
        if (what == 1) {
            return largest(kept);
        }
        for (Map.Entry<Integer, List<State>> e : kept.entrySet()) {
            if (e.getValue().size() == largest(kept)) {
                return e.getKey();
            }
        }
        return -2;
    }

    int ahead(int what) {
        if (!in(what, 0, 1)) {
            return NONE;
        }
        List<State> states = states();
        if (noChoice() || states.isEmpty()) {
            return -2;
        }
        int best = NONE;
        int fewest = Integer.MAX_VALUE;
        for (int i = 0; i < 6; i++) {
            if (choices[i] == null) {
                continue;
            }
            int worst = 0;
            for (List<State> group : byAnswer(states, choices[i]).values()) {
                int least = Integer.MAX_VALUE;
                for (Choice second : choices) {
                    if (second != null) {
                        least = Math.min(least, largest(byAnswer(group, second)));
                    }
                }
                worst = Math.max(worst, least);
            }
            if (worst < fewest) {
                fewest = worst;
                best = i;
            }
        }
        return what == 0 ? best : fewest;
    }

    private boolean[] sureWater() {
        List<Integer> fit = fitting();
        boolean[] w = new boolean[1024];
        for (int at = 0; at < 1024; at++) {
            w[at] = !fit.isEmpty();
            for (int c : fit) {
                w[at] = w[at] && !isLand(c, at % 32, at / 32);
            }
        }
        return w;
    }

    record Walk(int cell, int direction, int turns, String row) implements Comparable<Walk> {
        @Override
        public int compareTo(Walk o) {
            if (turns != o.turns) {
                return Integer.compare(turns, o.turns);
            }
            if (row.length() != o.row.length()) {
                return Integer.compare(row.length(), o.row.length());
            }
            return row.compareTo(o.row);
        }
    }

    int wayIn(int x, int y, int toX, int toY, int what) {
        if (!cell(x, y) || !cell(toX, toY) || !in(what, -1, 100)) {
            return NONE;
        }
        boolean[] w = sureWater();
        if (!w[y * 32 + x] || !w[toY * 32 + toX]) {
            return -2;
        }
        PriorityQueue<Walk> q = new PriorityQueue<>();
        boolean[] done = new boolean[5 * 1024];
        q.add(new Walk(y * 32 + x, 4, 0, ""));
        while (!q.isEmpty()) {
            Walk k = q.poll();
            if (k.cell == toY * 32 + toX) {
                if (what == NONE) {
                    return k.turns;
                }
                if (what == 100) {
                    return k.row.length();
                }
                return what < k.row.length() ? k.row.charAt(what) - '0' : NONE;
            }
            if (done[k.direction * 1024 + k.cell]) {
                continue;
            }
            done[k.direction * 1024 + k.cell] = true;
            for (int d = 0; d < 4; d++) {
                int nx = k.cell % 32 + DX[d];
                int ny = k.cell / 32 + DY[d];
                if (cell(nx, ny) && w[ny * 32 + nx]) {
                    int turns = k.turns + (k.direction == 4 || k.direction == d ? 0 : 1);
                    q.add(new Walk(ny * 32 + nx, d, turns, k.row + d));
                }
            }
        }
        return -2;
    }

    int pool(int x, int y, int what) {
        if (!cell(x, y) || !in(what, 0, 2)) {
            return NONE;
        }
        List<Integer> fit = fitting();
        if (fit.isEmpty()) {
            return -2;
        }
        boolean[] w = sureWater();
        boolean[] seen = new boolean[1024];
        List<Integer> todo = new ArrayList<>();
        if (w[y * 32 + x]) {
            todo.add(y * 32 + x);
            seen[y * 32 + x] = true;
        }
        int pool = 0;
        int wall = 0;
        int maybe = 0;
        for (int i = 0; i < todo.size(); i++) {
            pool++;
            for (int d = 0; d < 4; d++) {
                int nx = todo.get(i) % 32 + DX[d];
                int ny = todo.get(i) / 32 + DY[d];
                if (!cell(nx, ny) || seen[ny * 32 + nx]) {
                    continue;
                }
                seen[ny * 32 + nx] = true;
                if (w[ny * 32 + nx]) {
                    todo.add(ny * 32 + nx);
                } else {
                    wall++;
                    boolean water = false;
                    for (int c : fit) {
                        water = water || !isLand(c, nx, ny);
                    }
                    maybe += water ? 1 : 0;
                }
            }
        }
        return what == 0 ? pool : what == 1 ? wall : maybe;
    }

    int check(int c, int n) {
        if (!isCoast(c) || !in(n, 0, 32) || tape.size() < 4 * n) {
            return -2;
        }
        List<Integer> t = tape;
        tape = new ArrayList<>();
        for (int y = 0; y < n; y++) {
            for (int x = 0; x < 32; x++) {
                boolean bit = (t.get(4 * y + 3 - x / 8) >> (x % 8) & 1) == 1;
                if (bit != isLand(c, x, y)) {
                    return y;
                }
            }
        }
        return n < 32 ? n : NONE;
    }

    int count(int what) {
        switch (what) {
            case 0:
                return coasts.size();
            case 1:
                return sources.size();
            case 2:
                return clauses;
            case 3:
                return tape.size();
            case 4:
                return lines.size();
            case 5:
                return lines.isEmpty() ? NONE : lines.get(lines.size() - 1).notes.size();
            case 6:
                return wrongs;
            case 7:
                int told = 0;
                for (int i = 0; i < 6; i++) {
                    told |= choices[i] == null ? 0 : 1 << i;
                }
                return told;
            case 8:
                int bits = 0;
                for (int c : fitting()) {
                    bits |= 1 << c;
                }
                return bits;
            default:
                return isCoast(what - 10) ? coasts.get(what - 10).x.length : NONE;
        }
    }
}
