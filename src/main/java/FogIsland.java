import java.util.Arrays;

/** A map by ear: coasts, sounders, a log kept in fog, and what they tell together. */
public final class FogIsland {
    public static final int NONE = -1;

    private static final int NO_SUCH = -2;
    private static final int STANDS_ON_LAND = -3;
    private static final int NO_SUCH_CELL = -3;

    private static final int SIDE = 32;
    private static final int CELLS = SIDE * SIDE;
    private static final int DIRECTIONS = 4;
    private static final int[] STEP_X = {0, 1, 0, -1};
    private static final int[] STEP_Y = {1, 0, -1, 0};

    private static final int CLIFF = 0;
    private static final int BEACH = 1;
    private static final int UNKNOWN = 2;

    private static final int MOST_BYTES = 220;
    private static final int MOST_COASTS = 8;
    private static final int MOST_CORNERS = 16;
    private static final int MOST_SOUNDERS = 6;
    private static final int MOST_TEXT = 160;
    private static final int MOST_CLAUSES = 12;
    private static final int MOST_OPEN = 6;
    private static final int MOST_LINES = 12;
    private static final int MOST_NOTES = 6;
    private static final int MOST_WRONG = 3;
    private static final int MOST_CHOICES = 6;
    private static final int MOST_MOVE = 9;
    private static final int MOST_DRIFT = 3;
    private static final int MOST_LEVEL = 99;
    private static final int MOST_COUNTS = 64;
    private static final int TOLD_STEPS = 100;

    // Echoes come after even counts alone, so half of a count numbers the answers.
    private static final int ANSWERS = 32;

    private final Tape tape = new Tape();
    private final LawReader reader = new LawReader();
    private final Log log = new Log();
    private final Ear ear = log.ear;
    private final Chart chart = new Chart();
    private final Way way = new Way();
    private final Shouts shouts = new Shouts();

    // What was worked out for one number of changes stays good until the next change.
    private int changes = 1;

    public FogIsland() {
    }

    public int feed(int a, int b, int c, int d, int e) {
        if (tape.size + 20 > MOST_BYTES) {
            return NONE;
        }
        tape.put(a);
        tape.put(b);
        tape.put(c);
        tape.put(d);
        tape.put(e);
        return tape.size;
    }

    public int coast(int n) {
        boolean fair = within(n, 4, MOST_CORNERS) && (n & 1) == 0;
        if (!fair || chart.size >= MOST_COASTS || tape.size < 3 * n) {
            return NONE;
        }
        int place = tape.badCoastPlace(n);
        if (place == NONE) {
            Coast made = new Coast(chart.size, n);
            for (int i = 0; i < n; i++) {
                made.xs[i] = tape.at(2 * i);
                made.ys[i] = tape.at(2 * i + 1);
                made.sorts[i] = tape.at(2 * n + i);
            }
            addCoast(made);
        }
        tape.size = 0;
        return place == NONE ? chart.size - 1 : -1000 - place;
    }

    public int law(int n) {
        if (!within(n, 1, MOST_TEXT) || tape.size < n) {
            return NONE;
        }
        int answer = reader.read(tape, n, ear.spare);
        tape.size = 0;
        if (answer >= 0) {
            ear.takeSpare();
            log.forgetHeard();
            chart.restart();
            changes++;
        }
        return answer;
    }

    public int push(int c, int side, int by) {
        Coast old = chart.get(c);
        if (old == null || !within(side, 0, old.corners - 1)) {
            return NONE;
        }
        if (by == 0 || !within(by, -MOST_MOVE, MOST_MOVE) || chart.size >= MOST_COASTS) {
            return NONE;
        }
        if (!old.canMoveSide(side, by)) {
            return NO_SUCH;
        }
        Coast made = new Coast(chart.size, old.corners);
        made.copyMoved(old, side, by);
        addCoast(made);
        return chart.size - 1;
    }

    public int land(int c, int x, int y) {
        Coast coast = chart.get(c);
        if (coast == null || !inGrid(x, y)) {
            return NONE;
        }
        return coast.isLand(x, y) ? 1 : 0;
    }

    public int facing(int c, int x, int y, int direction, int what) {
        Coast coast = chart.get(c);
        boolean fair = inGrid(x, y) && within(direction, 0, 3) && within(what, 0, 2);
        if (coast == null || !fair) {
            return NONE;
        }
        if (coast.isLand(x, y)) {
            return STANDS_ON_LAND;
        }
        coast.sweep(direction);
        int view = coast.views[direction * CELLS + y * SIDE + x];
        if (what == 0) {
            return view >> 2;
        }
        if (what == 1) {
            return view == 0 ? NO_SUCH : view & 3;
        }
        return 2 * echoSteps(view);
    }

    public int sounder(int x, int y, int kind, int loudness) {
        boolean fair = inGrid(x, y) && within(kind, 0, 3) && within(loudness, 0, MOST_LEVEL);
        if (!fair || ear.size >= MOST_SOUNDERS) {
            return NONE;
        }
        ear.addSounder(x, y, kind, loudness);
        return ear.size - 1;
    }

    public int level(int c, int s, int x, int y, int hour, int wind) {
        Coast coast = chart.get(c);
        boolean fair = inGrid(x, y) && within(hour, 0, 23) && within(wind, 0, 3);
        if (coast == null || !ear.hasSounder(s) || !fair) {
            return NONE;
        }
        ear.listen(s, hour, wind);
        return ear.loudnessAt(coast, x, y);
    }

    public int line(int dx, int dy, int drift, int hour, int wind) {
        boolean fair = within(dx, -MOST_MOVE, MOST_MOVE) && within(dy, -MOST_MOVE, MOST_MOVE);
        fair = fair && within(drift, 0, MOST_DRIFT) && within(hour, 0, 23) && within(wind, 0, 3);
        if (!fair || log.size >= MOST_LINES) {
            return NONE;
        }
        log.add(dx, dy, drift, hour, wind);
        changes++;
        return log.size - 1;
    }

    public int hears(int s, int level, int error) {
        boolean fair = within(level, 0, MOST_LEVEL) && within(error, 0, MOST_LEVEL);
        if (!ear.hasSounder(s) || !fair) {
            return NONE;
        }
        return addNote(false, s, level, error);
    }

    public int echo(int direction, int count) {
        if (!within(direction, 0, 3) || !within(count, 0, MOST_COUNTS)) {
            return NONE;
        }
        return addNote(true, direction, count, 0);
    }

    public int back() {
        if (log.size == 0) {
            return NONE;
        }
        log.size--;
        chart.dropBeyond(log);
        changes++;
        return log.size;
    }

    public boolean wrong(int n) {
        if (!within(n, 0, MOST_WRONG)) {
            return false;
        }
        if (n != log.slips) {
            log.slips = n;
            chart.restart();
            changes++;
        }
        return true;
    }

    public boolean box(int x, int y, int toX, int toY) {
        if (!inGrid(x, y) || !inGrid(toX, toY) || x > toX || y > toY) {
            return false;
        }
        log.boxFrom = y;
        log.boxTo = toY;
        log.boxRow = span(x, toX);
        chart.restart();
        changes++;
        return true;
    }

    public int fits(int c) {
        Coast coast = chart.get(c);
        if (coast == null) {
            return NONE;
        }
        log.follow(coast);
        return log.badLine(coast) == NONE ? 1 : 0;
    }

    public int firstBad(int c) {
        Coast coast = chart.get(c);
        if (coast == null) {
            return NONE;
        }
        log.follow(coast);
        int bad = log.badLine(coast);
        return bad == NONE ? NO_SUCH : bad;
    }

    public int possible(int c, int line) {
        Coast one = chart.get(c);
        if (!within(line, 0, log.size - 1) || (c != NONE && one == null)) {
            return NO_SUCH;
        }
        int sum = 0;
        int to = c == NONE ? chart.size : c + 1;
        for (int i = c == NONE ? 0 : c; i < to; i++) {
            Coast coast = chart.get(i);
            if (coast != null) {
                sum += bitsIn(log.placesAt(coast, line, changes), 0);
            }
        }
        return sum;
    }

    public int isPossible(int c, int line, int x, int y) {
        Coast coast = chart.get(c);
        if (coast == null || !within(line, 0, log.size - 1) || !inGrid(x, y)) {
            return NONE;
        }
        return (log.placesAt(coast, line, changes)[y] >>> x) & 1;
    }

    public int sure(int x, int y, int what) {
        if (!inGrid(x, y) || !within(what, 0, 2)) {
            return NO_SUCH_CELL;
        }
        chart.survey(log, changes);
        if (chart.fitBits == 0) {
            return NO_SUCH;
        }
        if (what != 0) {
            return chart.lowestFitting(x, y, what == 1);
        }
        if (((chart.sureLand[y] >>> x) & 1) == 1) {
            return 0;
        }
        return chart.isSureWater(x, y) ? 1 : 2;
    }

    public boolean choice(int i, int dx, int dy, int direction) {
        boolean fair = within(dx, -MOST_MOVE, MOST_MOVE) && within(dy, -MOST_MOVE, MOST_MOVE);
        if (!within(i, 0, MOST_CHOICES - 1) || !fair || !within(direction, 0, 3)) {
            return false;
        }
        shouts.tell(i, dx, dy, direction);
        changes++;
        return true;
    }

    public int next(int what) {
        if (!within(what, 0, 3)) {
            return NONE;
        }
        if (shouts.told == 0 || log.size == 0) {
            return NO_SUCH;
        }
        chart.survey(log, changes);
        shouts.weigh(chart, log, changes);
        if (shouts.states == 0) {
            return NO_SUCH;
        }
        switch (what) {
            case 0:
                return shouts.best;
            case 1:
                return shouts.most;
            case 2:
                return shouts.most == 0 ? NO_SUCH : shouts.worst;
            default:
                return shouts.states;
        }
    }

    public int ahead(int what) {
        if (!within(what, 0, 1)) {
            return NONE;
        }
        if (shouts.told == 0 || log.size == 0) {
            return NO_SUCH;
        }
        chart.survey(log, changes);
        shouts.weighTwo(chart, log, changes);
        if (shouts.states == 0) {
            return NO_SUCH;
        }
        return what == 0 ? shouts.first : shouts.stay;
    }

    public int wayIn(int x, int y, int toX, int toY, int what) {
        if (!inGrid(x, y) || !inGrid(toX, toY) || !within(what, NONE, TOLD_STEPS)) {
            return NONE;
        }
        chart.survey(log, changes);
        if (!chart.isSureWater(x, y) || !chart.isSureWater(toX, toY)) {
            return NO_SUCH;
        }
        way.seek(chart.sureWater, y * SIDE + x, toY * SIDE + toX, changes);
        if (!way.found) {
            return NO_SUCH;
        }
        if (what == NONE) {
            return way.turns;
        }
        if (what == TOLD_STEPS) {
            return way.steps;
        }
        return what < way.steps ? way.row[what] : NONE;
    }

    public int pool(int x, int y, int what) {
        if (!inGrid(x, y) || !within(what, 0, 2)) {
            return NONE;
        }
        chart.survey(log, changes);
        if (chart.fitBits == 0) {
            return NO_SUCH;
        }
        chart.fillPool(x, y);
        if (what == 0) {
            return bitsIn(chart.filled, 0);
        }
        return chart.wallCells(what == 2);
    }

    public int check(int c, int n) {
        Coast coast = chart.get(c);
        if (coast == null || !within(n, 0, SIDE) || tape.size < 4 * n) {
            return NO_SUCH;
        }
        int place = 0;
        while (place < n && tape.number(place) == coast.landRows[place]) {
            place++;
        }
        tape.size = 0;
        return place == SIDE ? NONE : place;
    }

    public int count(int what) {
        switch (what) {
            case 0:
                return chart.size;
            case 1:
                return ear.size;
            case 2:
                return ear.law.clauses;
            case 3:
                return tape.size;
            case 4:
                return log.size;
            case 5:
                Line last = log.last();
                return last == null ? NONE : last.noteCount;
            case 6:
                return log.slips;
            case 7:
                return shouts.told;
            case 8:
                chart.survey(log, changes);
                return chart.fitBits;
            default:
                Coast coast = within(what, 10, 9 + MOST_COASTS) ? chart.get(what - 10) : null;
                return coast == null ? NONE : coast.corners;
        }
    }

    private void addCoast(Coast made) {
        made.drawLand();
        chart.coasts[chart.size] = made;
        chart.size++;
        changes++;
    }

    private int addNote(boolean isEcho, int subject, int amount, int error) {
        Line last = log.last();
        if (last == null || last.noteCount >= MOST_NOTES) {
            return NONE;
        }
        last.addNote(isEcho, subject, amount, error);
        changes++;
        return last.noteCount;
    }

    private static boolean within(int value, int low, int high) {
        return value >= low && value <= high;
    }

    private static boolean inGrid(int x, int y) {
        return x >= 0 && x < SIDE && y >= 0 && y < SIDE;
    }

    /** The bits from one place to another, both with them. */
    private static int span(int a, int b) {
        int low = a < b ? a : b;
        int high = a < b ? b : a;
        return (-1 << low) & (-1 >>> (SIDE - 1 - high));
    }

    /** A row of cells moved along x; what goes beyond an end is lost. */
    private static int moved(int row, int by) {
        return by >= 0 ? row << by : row >>> -by;
    }

    private static int bitsIn(int[] rows, int from) {
        int sum = 0;
        for (int y = 0; y < SIDE; y++) {
            sum += Integer.bitCount(rows[from + y]);
        }
        return sum;
    }

    private static int lowestBit(int row) {
        return Integer.bitCount((row & -row) - 1);
    }

    /** The steps of an echo that comes or may come (0: none) by a view of Coast. */
    private static int echoSteps(int view) {
        return view > 0 && (view & 3) != BEACH ? view >> 2 : 0;
    }

    /** Whether an echo does not come or may not, by a view of Coast. */
    private static boolean maybeSilent(int view) {
        return view <= 0 || (view & 3) != CLIFF;
    }

    /** The bytes that were fed and not used yet. */
    private static final class Tape {
        final int[] bytes = new int[MOST_BYTES];
        int size;

        void put(int number) {
            for (int shift = 24; shift >= 0 && size < bytes.length; shift -= 8) {
                bytes[size] = (number >>> shift) & 255;
                size++;
            }
        }

        int at(int place) {
            return place >= 0 && place < size ? bytes[place] : NONE;
        }

        int number(int place) {
            int from = 4 * place;
            return at(from) << 24 | at(from + 1) << 16 | at(from + 2) << 8 | at(from + 3);
        }

        /** The first place that can't be in a coast of n corners; NONE: all can. */
        int badCoastPlace(int n) {
            for (int i = 0; i < n; i++) {
                if (at(2 * i) > SIDE) {
                    return 2 * i;
                }
                if (at(2 * i + 1) > SIDE) {
                    return 2 * i + 1;
                }
                boolean goesOn = i == 0 || joins(i - 1, i);
                if (!goesOn || (i == n - 1 && !joins(i, 0))) {
                    return 2 * i;
                }
            }
            for (int place = 2 * n; place < 3 * n; place++) {
                if (at(place) > UNKNOWN) {
                    return place;
                }
            }
            return NONE;
        }

        /** Whether the side of number a can go from corner a to corner b. */
        private boolean joins(int a, int b) {
            boolean sameX = at(2 * a) == at(2 * b);
            boolean sameY = at(2 * a + 1) == at(2 * b + 1);
            return (a & 1) == 0 ? sameY && !sameX : sameX && !sameY;
        }
    }

    /** A ring of sides, its land, and how far the log has been followed in it. */
    private static final class Coast {
        final int number;
        final int corners;
        final int[] xs;
        final int[] ys;
        final int[] sorts;

        // The same land twice: by y a bit for each x, and by x a bit for each y.
        final int[] landRows = new int[SIDE];
        final int[] landColumns = new int[SIDE];

        // By direction and cell: -1 land, 0 no land ahead, else 4 times the steps and the sort.
        final int[] views = new int[DIRECTIONS * CELLS];
        final boolean[] swept = new boolean[DIRECTIONS];

        // By line and number of wrong notes (at most): rows of cells where one can be.
        final int[] reach = new int[MOST_LINES * (MOST_WRONG + 1) * SIDE];
        int linesDone;
        int notesDone;

        Coast(int number, int corners) {
            this.number = number;
            this.corners = corners;
            xs = new int[MOST_CORNERS];
            ys = new int[MOST_CORNERS];
            sorts = new int[MOST_CORNERS];
        }

        void copyMoved(Coast old, int side, int by) {
            int end = side + 1 < corners ? side + 1 : 0;
            boolean alongX = (side & 1) == 0;
            for (int i = 0; i < corners; i++) {
                boolean moves = i == side || i == end;
                xs[i] = old.xs[i] + (moves && !alongX ? by : 0);
                ys[i] = old.ys[i] + (moves && alongX ? by : 0);
                sorts[i] = old.sorts[i];
            }
        }

        /** The two sides beside the moved one alone change their length. */
        boolean canMoveSide(int side, int by) {
            int[] across = (side & 1) == 0 ? ys : xs;
            int before = side > 0 ? side - 1 : corners - 1;
            int after = side + 2 < corners ? side + 2 : side + 2 - corners;
            int at = across[side] + by;
            return within(at, 0, SIDE) && across[before] != at && across[after] != at;
        }

        void drawLand() {
            for (int i = 0; i < corners; i++) {
                int next = i + 1 < corners ? i + 1 : 0;
                if ((i & 1) == 1) {
                    turnBeyond(landRows, ys[i], ys[next], xs[i]);
                } else {
                    turnBeyond(landColumns, xs[i], xs[next], ys[i]);
                }
            }
        }

        /** A side makes water of land and land of water in all cells beyond it. */
        private static void turnBeyond(int[] rows, int a, int b, int place) {
            // A side at the far edge has no cell beyond it, and a shift by 32 would be one by 0.
            int beyond = place < SIDE ? -1 << place : 0;
            int to = Math.min(SIDE, Math.max(a, b));
            for (int i = Math.max(0, Math.min(a, b)); i < to; i++) {
                rows[i] ^= beyond;
            }
        }

        boolean isLand(int x, int y) {
            return ((landRows[y] >>> x) & 1) == 1;
        }

        /** Land on the way from a cell along x, then along y, to another one, but for both ends. */
        int landBetween(int x, int y, int toX, int toY) {
            int along = span(x, toX) & ~(1 << x);
            if (y == toY) {
                along &= ~(1 << toX);
            }
            int upward = span(y, toY) & ~(1 << y) & ~(1 << toY);
            return Integer.bitCount(landRows[y] & along) + Integer.bitCount(landColumns[toX] & upward);
        }

        void sweep(int direction) {
            if (swept[direction]) {
                return;
            }
            swept[direction] = true;
            for (int lane = 0; lane < SIDE; lane++) {
                sweepLane(direction, lane);
            }
        }

        private void sweepLane(int direction, int lane) {
            boolean alongY = (direction & 1) == 0;
            int view = 0;
            for (int k = 0; k < SIDE; k++) {
                int place = direction < 2 ? SIDE - 1 - k : k;
                int x = alongY ? lane : place;
                int y = alongY ? place : lane;
                if (isLand(x, y)) {
                    view = -1;
                } else if (view == -1) {
                    view = 4 + sortBeside(direction, x, y);
                } else if (view > 0) {
                    view += 4;
                }
                views[direction * CELLS + y * SIDE + x] = view;
            }
        }

        /** The sort of the lowest side between a cell and the next one in a direction. */
        private int sortBeside(int direction, int x, int y) {
            boolean alongX = (direction & 1) == 0;
            int[] across = alongX ? ys : xs;
            int[] along = alongX ? xs : ys;
            int at = (alongX ? y : x) + (direction < 2 ? 1 : 0);
            int place = alongX ? x : y;
            for (int i = alongX ? 0 : 1; i < corners; i += 2) {
                int end = along[i + 1 < corners ? i + 1 : 0];
                boolean covers = (along[i] <= place) != (end <= place);
                if (across[i] == at && covers) {
                    return sorts[i];
                }
            }
            return CLIFF;
        }

        /** Where the rows of a line and a number of wrong notes begin in reach. */
        int rowsAt(int line, int slips) {
            return (line * (MOST_WRONG + 1) + slips) * SIDE;
        }
    }

    /** A law as a row of orders for a stack: each clause's sum, then its condition. */
    private static final class Law {
        static final int NUMBER = 0;
        static final int LETTER = 1;
        static final int PLUS = 2;
        static final int MINUS = 3;
        static final int TIMES = 4;
        static final int OVER = 5;
        static final int REST = 6;
        static final int LESS = 7;
        static final int MORE = 8;
        static final int SAME = 9;
        static final int NOT = 10;
        static final int SKIP_IF_TRUE = 11;
        static final int SKIP_IF_FALSE = 12;

        // Those that change from cell to cell come last, so that the others can be set once.
        static final String LETTERS = "bkshqdurn";

        // Two numbers can wait at each of the brackets, three behind the last, one before a sign.
        static final int STACK = 2 * MOST_OPEN + 8;

        final int[] orders = new int[MOST_TEXT];
        final int[] sumAt = new int[MOST_CLAUSES + 1];
        final int[] conditionAt = new int[MOST_CLAUSES];
        final int[] stack = new int[STACK];
        int length;
        int clauses;
        boolean refused;
        boolean truth;

        void clear() {
            length = 0;
            clauses = 0;
        }

        /** The place of the new order. */
        int add(int order, int argument) {
            if (length >= orders.length) {
                return NONE;
            }
            orders[length] = argument * 16 + order;
            length++;
            return length - 1;
        }

        /** A skip learns where it goes when what it skips has been read. */
        void aimHere(int skip) {
            if (skip >= 0 && skip < length) {
                orders[skip] += length * 16;
            }
        }

        void endSum() {
            if (clauses < MOST_CLAUSES) {
                conditionAt[clauses] = length;
            }
        }

        void endClause() {
            if (clauses < MOST_CLAUSES) {
                clauses++;
                sumAt[clauses] = length;
            }
        }

        /** Answers a sum; of a condition, truth says whether it holds; refused goes for both. */
        int run(int from, int to, int[] letters) {
            int top = 0;
            refused = false;
            truth = false;
            for (int at = from; at < to; at++) {
                int order = orders[at] & 15;
                int argument = orders[at] >> 4;
                if (order <= LETTER) {
                    if (top < STACK) {
                        stack[top] = order == NUMBER ? argument : letters[argument];
                        top++;
                    }
                } else if (order >= NOT) {
                    if (order == NOT) {
                        truth = !truth;
                    } else if (truth == (order == SKIP_IF_TRUE)) {
                        at = Math.max(at, argument - 1);
                    }
                } else if (top >= 2) {
                    int right = stack[top - 1];
                    int left = stack[top - 2];
                    if (right == 0 && (order == OVER || order == REST)) {
                        refused = true;
                        return 0;
                    }
                    if (order >= LESS) {
                        truth = order == LESS ? left < right : order == MORE ? left > right : left == right;
                        top -= 2;
                    } else {
                        stack[top - 2] = reckon(order, left, right);
                        top--;
                    }
                }
            }
            return top > 0 ? stack[top - 1] : 0;
        }

        private static int reckon(int order, int left, int right) {
            switch (order) {
                case PLUS:
                    return left + right;
                case MINUS:
                    return left - right;
                case TIMES:
                    return left * right;
                case OVER:
                    return right == 0 ? 0 : left / right;
                default:
                    return right == 0 ? 0 : left % right;
            }
        }
    }

    /** Reads a law from the tape, byte by byte, up to the first fault. */
    private static final class LawReader {
        private static final int CANT_STAND = 1;
        private static final int SIXTH_DIGIT = 2;
        private static final int CLAUSE_TOO_MANY = 4;
        private static final int TOO_DEEP = 5;

        private final int[] text = new int[MOST_TEXT];
        private Law law;
        private int length;
        private int at;
        private int fault;

        /** How many clauses the first n bytes have, or the fault as law() tells it. */
        int read(Tape tape, int n, Law into) {
            law = into;
            law.clear();
            length = Math.min(n, text.length);
            for (int i = 0; i < length; i++) {
                text[i] = tape.at(i);
            }
            at = 0;
            fault = 0;
            boolean more = true;
            for (int i = 0; more && i < MOST_CLAUSES; i++) {
                expect('v');
                readSum(0);
                law.endSum();
                expect('(');
                readCondition(1);
                expect(')');
                law.endClause();
                more = fault == 0 && at < length;
                if (more) {
                    expect(';');
                }
            }
            if (more) {
                stop(sign() == 'v' ? CLAUSE_TOO_MANY : CANT_STAND);
            }
            return fault == 0 ? law.clauses : -1000 * fault - at;
        }

        private void readCondition(int open) {
            int part = NONE;
            int piece = NONE;
            boolean more = true;
            for (int i = 0; more && i < MOST_TEXT; i++) {
                readPiece(open);
                law.aimHere(piece);
                piece = NONE;
                more = takes('&');
                if (more) {
                    piece = law.add(Law.SKIP_IF_FALSE, 0);
                } else {
                    law.aimHere(part);
                    part = NONE;
                    more = takes('|');
                    if (more) {
                        part = law.add(Law.SKIP_IF_TRUE, 0);
                    }
                }
            }
        }

        private void readPiece(int open) {
            if (sign() == '!') {
                if (opens(open)) {
                    readPiece(open + 1);
                    law.add(Law.NOT, 0);
                }
            } else if (sign() == '(') {
                if (opens(open)) {
                    readCondition(open + 1);
                    expect(')');
                }
            } else {
                readSum(open);
                int order = takesOneOf('<', '>', '=', Law.LESS);
                if (order == NONE) {
                    stop(CANT_STAND);
                }
                readSum(open);
                law.add(order, 0);
            }
        }

        private void readSum(int open) {
            int waiting = NONE;
            boolean more = true;
            for (int i = 0; more && i < MOST_TEXT; i++) {
                readFactor(open);
                int order = takesOneOf('*', '/', '%', Law.TIMES);
                for (int k = 0; order != NONE && k < MOST_TEXT; k++) {
                    readFactor(open);
                    law.add(order, 0);
                    order = takesOneOf('*', '/', '%', Law.TIMES);
                }
                if (waiting != NONE) {
                    law.add(waiting, 0);
                }
                waiting = takesOneOf('+', '-', '-', Law.PLUS);
                more = waiting != NONE;
            }
        }

        private void readFactor(int open) {
            int sign = sign();
            int letter = sign == NONE ? NONE : Law.LETTERS.indexOf((char) sign);
            if (sign == '[') {
                if (opens(open)) {
                    readSum(open + 1);
                    expect(']');
                }
            } else if (letter >= 0) {
                at++;
                law.add(Law.LETTER, letter);
            } else if (within(sign, '0', '9')) {
                readNumber();
            } else {
                stop(CANT_STAND);
            }
        }

        private void readNumber() {
            int number = 0;
            int digits = 0;
            while (digits < 5 && within(sign(), '0', '9')) {
                number = 10 * number + sign() - '0';
                digits++;
                at++;
            }
            law.add(Law.NUMBER, number);
            if (within(sign(), '0', '9')) {
                stop(SIXTH_DIGIT);
            }
        }

        /** The sign that comes; NONE behind the end, and behind a fault, where nothing more is read. */
        private int sign() {
            return fault == 0 && at >= 0 && at < length ? text[at] : NONE;
        }

        private boolean takes(char sign) {
            boolean comes = sign() == sign;
            if (comes) {
                at++;
            }
            return comes;
        }

        private int takesOneOf(char first, char second, char third, int firstOrder) {
            if (takes(first)) {
                return firstOrder;
            }
            if (takes(second)) {
                return firstOrder + 1;
            }
            return takes(third) ? firstOrder + 2 : NONE;
        }

        private void expect(char sign) {
            if (sign() == sign) {
                at++;
            } else {
                stop(CANT_STAND);
            }
        }

        /** Steps over a sign that opens, if not too many are open around it. */
        private boolean opens(int open) {
            if (open >= MOST_OPEN) {
                stop(TOO_DEEP);
                return false;
            }
            at++;
            return true;
        }

        private void stop(int number) {
            if (fault == 0) {
                fault = number;
            }
        }
    }

    /** The sounders and the law by which they are heard. */
    private static final class Ear {
        final int[] xs = new int[MOST_SOUNDERS];
        final int[] ys = new int[MOST_SOUNDERS];
        final int[] kinds = new int[MOST_SOUNDERS];
        final int[] louds = new int[MOST_SOUNDERS];
        int size;
        Law law = new Law();
        Law spare = new Law();

        // In the order of Law.LETTERS.
        private final int[] letters = new int[9];

        void addSounder(int x, int y, int kind, int loud) {
            if (size < MOST_SOUNDERS) {
                xs[size] = x;
                ys[size] = y;
                kinds[size] = kind;
                louds[size] = loud;
                size++;
            }
        }

        void takeSpare() {
            Law old = law;
            law = spare;
            spare = old;
        }

        boolean hasSounder(int s) {
            return s >= 0 && s < size;
        }

        /** Chooses a sounder: what is the same at all cells is set once. */
        void listen(int s, int hour, int wind) {
            if (hasSounder(s)) {
                letters[0] = louds[s];
                letters[1] = kinds[s];
                letters[2] = s;
                letters[3] = hour;
                letters[4] = wind;
            }
        }

        /** The level of the chosen sounder at a cell. */
        int loudnessAt(Coast coast, int x, int y) {
            int toX = xs[letters[2]];
            int toY = ys[letters[2]];
            letters[5] = Math.abs(toX - x) + Math.abs(toY - y);
            letters[6] = toY - y;
            letters[7] = toX - x;
            letters[8] = coast.landBetween(x, y, toX, toY);
            for (int i = 0; i < law.clauses; i++) {
                law.run(law.conditionAt[i], law.sumAt[i + 1], letters);
                if (law.truth && !law.refused) {
                    int level = law.run(law.sumAt[i], law.conditionAt[i], letters);
                    return Math.max(0, Math.min(MOST_LEVEL, level));
                }
            }
            return 0;
        }

        /** Of the needed cells of a row those where a note holds; each cell is asked once. */
        int holdsIn(Note note, Line line, Coast coast, int y, int needed) {
            int at = coast.number * SIDE + y;
            int asked = needed & ~note.known[at];
            if (asked != 0 && note.isEcho) {
                coast.sweep(note.subject);
            } else if (asked != 0) {
                listen(note.subject, line.hour, line.wind);
            }
            int found = 0;
            int left = asked;
            for (int k = 0; left != 0 && k < SIDE; k++) {
                int x = lowestBit(left);
                left &= left - 1;
                boolean holds;
                if (note.isEcho) {
                    holds = note.fitsView(coast.views[note.subject * CELLS + y * SIDE + x]);
                } else {
                    holds = Math.abs(loudnessAt(coast, x, y) - note.amount) <= note.error;
                }
                found |= holds ? 1 << x : 0;
            }
            note.known[at] |= asked;
            note.holds[at] |= found;
            return note.holds[at];
        }
    }

    /** What was noted, and by coast and row where that is known to hold. */
    private static final class Note {
        boolean isEcho;
        int subject;
        int amount;
        int error;
        final int[] known = new int[MOST_COASTS * SIDE];
        final int[] holds = new int[MOST_COASTS * SIDE];

        void tell(boolean ofEcho, int about, int much, int moreOrLess) {
            isEcho = ofEcho;
            subject = about;
            amount = much;
            error = moreOrLess;
            forget();
        }

        void forget() {
            Arrays.fill(known, 0);
            Arrays.fill(holds, 0);
        }

        boolean fitsView(int view) {
            if (amount == 0) {
                return maybeSilent(view);
            }
            return 2 * echoSteps(view) == amount;
        }
    }

    private static final class Line {
        int dx;
        int dy;
        int drift;
        int hour;
        int wind;
        int noteCount;
        final Note[] notes = new Note[MOST_NOTES];

        void addNote(boolean isEcho, int subject, int amount, int error) {
            if (noteCount >= MOST_NOTES) {
                return;
            }
            if (notes[noteCount] == null) {
                notes[noteCount] = new Note();
            }
            notes[noteCount].tell(isEcho, subject, amount, error);
            noteCount++;
        }
    }

    /** The log, and how it is followed through a coast, forth and back. */
    private static final class Log {
        // Lines taken back stay behind the last one, to be used again.
        final Line[] lines = new Line[MOST_LINES];
        int size;
        int slips;
        int boxFrom;
        int boxTo = SIDE - 1;
        int boxRow = -1;
        final Ear ear = new Ear();
        private final int[] drifted = new int[SIDE];
        private final int[] onward = new int[(MOST_WRONG + 1) * SIDE];
        private final int[] places = new int[SIDE];
        private int placesCoast;
        private int placesLine;
        private int placesChange;

        void add(int dx, int dy, int drift, int hour, int wind) {
            if (size >= MOST_LINES) {
                return;
            }
            if (lines[size] == null) {
                lines[size] = new Line();
            }
            Line line = lines[size];
            line.dx = dx;
            line.dy = dy;
            line.drift = drift;
            line.hour = hour;
            line.wind = wind;
            line.noteCount = 0;
            size++;
        }

        Line last() {
            return size > 0 ? lines[size - 1] : null;
        }

        /** Under a new law what was heard must be asked anew. */
        void forgetHeard() {
            for (int i = 0; i < size; i++) {
                for (int k = 0; k < lines[i].noteCount; k++) {
                    if (!lines[i].notes[k].isEcho) {
                        lines[i].notes[k].forget();
                    }
                }
            }
        }

        /** Goes on from where the coast was left: most calls add one note or one line. */
        void follow(Coast coast) {
            for (int i = Math.max(0, coast.linesDone - 1); i < size; i++) {
                Line line = lines[i];
                if (i >= coast.linesDone) {
                    begin(coast, i, line);
                    coast.linesDone = i + 1;
                    coast.notesDone = 0;
                }
                for (int k = coast.notesDone; k < line.noteCount; k++) {
                    sift(coast, line, k, coast.reach, coast.rowsAt(i, 0));
                }
                coast.notesDone = line.noteCount;
            }
        }

        private void begin(Coast coast, int i, Line line) {
            for (int w = 0; w <= slips; w++) {
                int at = coast.rowsAt(i, w);
                if (i > 0) {
                    drift(coast.reach, coast.rowsAt(i - 1, w), at, line, 1);
                }
                for (int y = 0; y < SIDE; y++) {
                    int start = y >= boxFrom && y <= boxTo ? boxRow : 0;
                    int row = i > 0 ? coast.reach[at + y] : start;
                    coast.reach[at + y] = row & ~coast.landRows[y];
                }
            }
        }

        /** Within one array: the rows that a move makes of others (sign -1: the move undone). */
        private void drift(int[] rows, int from, int to, Line line, int sign) {
            for (int y = 0; y < SIDE; y++) {
                int row = rows[from + y];
                drifted[y] = 0;
                for (int by = -line.drift; row != 0 && by <= line.drift; by++) {
                    drifted[y] |= moved(row, sign * line.dx + by);
                }
            }
            for (int y = 0; y < SIDE; y++) {
                int low = Math.max(0, y - sign * line.dy - line.drift);
                int high = Math.min(SIDE - 1, y - sign * line.dy + line.drift);
                int row = 0;
                for (int source = low; source <= high; source++) {
                    row |= drifted[source];
                }
                rows[to + y] = row;
            }
        }

        /** A note that does not hold costs one of those that may be wrong. */
        private void sift(Coast coast, Line line, int k, int[] rows, int from) {
            int widest = from + slips * SIDE;
            for (int y = 0; y < SIDE; y++) {
                int needed = rows[widest + y];
                if (needed != 0) {
                    int holds = ear.holdsIn(line.notes[k], line, coast, y, needed);
                    for (int at = widest + y; at > from + y; at -= SIDE) {
                        rows[at] = rows[at] & holds | rows[at - SIDE];
                    }
                    rows[from + y] &= holds;
                }
            }
        }

        /** The first bad line of a coast that has been followed; NONE: it fits. */
        int badLine(Coast coast) {
            for (int i = 0; i < size; i++) {
                if (bitsIn(coast.reach, coast.rowsAt(i, slips)) == 0) {
                    return i;
                }
            }
            return NONE;
        }

        /** Rows of the cells that are possible at a line in a coast. */
        int[] placesAt(Coast coast, int line, int change) {
            if (placesCoast != coast.number || placesLine != line || placesChange != change) {
                placesCoast = coast.number;
                placesLine = line;
                placesChange = change;
                follow(coast);
                goBackTo(coast, line);
                for (int y = 0; y < SIDE; y++) {
                    places[y] = 0;
                    for (int w = 0; w <= slips; w++) {
                        int row = coast.reach[coast.rowsAt(line, w) + y];
                        places[y] |= row & onward[(slips - w) * SIDE + y];
                    }
                }
            }
            return places;
        }

        /** From which cells of a line the later lines can be gone, by number of wrong notes there. */
        private void goBackTo(Coast coast, int line) {
            Arrays.fill(onward, -1);
            for (int i = size - 1; i > line; i--) {
                int reached = coast.rowsAt(i, slips);
                for (int at = 0; at < onward.length; at++) {
                    onward[at] &= coast.reach[reached + (at & 31)];
                }
                for (int k = 0; k < lines[i].noteCount; k++) {
                    sift(coast, lines[i], k, onward, 0);
                }
                for (int w = 0; w <= slips; w++) {
                    drift(onward, w * SIDE, w * SIDE, lines[i], -1);
                }
            }
        }
    }

    /** The coasts, which of them fit, what all that fit agree on, and a pool of it. */
    private static final class Chart {
        final Coast[] coasts = new Coast[MOST_COASTS];
        int size;
        int fitBits;
        final int[] sureLand = new int[SIDE];
        final int[] sureWater = new int[SIDE];
        final int[] filled = new int[SIDE];
        private int surveyed;

        Coast get(int c) {
            return c >= 0 && c < size ? coasts[c] : null;
        }

        void restart() {
            for (int c = 0; c < size; c++) {
                coasts[c].linesDone = 0;
                coasts[c].notesDone = 0;
            }
        }

        void dropBeyond(Log log) {
            Line last = log.last();
            for (int c = 0; c < size; c++) {
                if (coasts[c].linesDone > log.size) {
                    coasts[c].linesDone = log.size;
                    coasts[c].notesDone = last == null ? 0 : last.noteCount;
                }
            }
        }

        void survey(Log log, int change) {
            if (surveyed == change) {
                return;
            }
            surveyed = change;
            fitBits = 0;
            Arrays.fill(sureLand, -1);
            Arrays.fill(sureWater, -1);
            for (int c = 0; c < size; c++) {
                log.follow(coasts[c]);
                if (log.badLine(coasts[c]) == NONE) {
                    fitBits |= 1 << c;
                    for (int y = 0; y < SIDE; y++) {
                        sureLand[y] &= coasts[c].landRows[y];
                        sureWater[y] &= ~coasts[c].landRows[y];
                    }
                }
            }
            if (fitBits == 0) {
                Arrays.fill(sureLand, 0);
                Arrays.fill(sureWater, 0);
            }
        }

        boolean isSureWater(int x, int y) {
            return ((sureWater[y] >>> x) & 1) == 1;
        }

        /** The lowest coast that fits in which a cell is land (or water). */
        int lowestFitting(int x, int y, boolean asLand) {
            for (int c = 0; c < size; c++) {
                if (((fitBits >>> c) & 1) == 1 && coasts[c].isLand(x, y) == asLand) {
                    return c;
                }
            }
            return NONE;
        }

        void fillPool(int x, int y) {
            Arrays.fill(filled, 0);
            filled[y] = (1 << x) & sureWater[y];
            boolean grew = filled[y] != 0;
            for (int sweep = 0; grew && sweep < CELLS; sweep++) {
                grew = false;
                for (int k = 0; k < 2 * SIDE; k++) {
                    grew = growPool(k < SIDE ? k : 2 * SIDE - 1 - k) || grew;
                }
            }
        }

        private boolean growPool(int y) {
            int before = filled[y];
            int row = 0;
            int wider = (before | besidePool(y)) & sureWater[y];
            for (int step = 0; step < SIDE && wider != row; step++) {
                row = wider;
                wider = (row | row << 1 | row >>> 1) & sureWater[y];
            }
            filled[y] = wider;
            return wider != before;
        }

        /** The cells of a row that lie above or below one of the pool. */
        private int besidePool(int y) {
            int below = y > 0 ? filled[y - 1] : 0;
            int above = y < SIDE - 1 ? filled[y + 1] : 0;
            return below | above;
        }

        int wallCells(boolean onlyMaybeWater) {
            int sum = 0;
            for (int y = 0; y < SIDE; y++) {
                int row = (filled[y] << 1 | filled[y] >>> 1 | besidePool(y)) & ~sureWater[y];
                sum += Integer.bitCount(onlyMaybeWater ? row & ~sureLand[y] : row);
            }
            return sum;
        }
    }

    /** The way in, sought from its end, turn by turn. */
    private static final class Way {
        private static final int TURN = 2048;

        // By direction and cell: the best way on that begins so, TURN for each turn and 1 for each
        // step; 0: none is known.
        private final int[] best = new int[DIRECTIONS * CELLS];
        final int[] row = new int[TOLD_STEPS];
        boolean found;
        int turns;
        int steps;
        private int start;
        private int goal;
        private int sought;

        void seek(int[] open, int from, int to, int change) {
            if (sought == change && start == from && goal == to) {
                return;
            }
            sought = change;
            start = from;
            goal = to;
            found = from == to;
            turns = 0;
            steps = 0;
            if (found) {
                return;
            }
            Arrays.fill(best, 0);
            boolean grew = true;
            for (int turn = 0; grew && !found && turn < CELLS; turn++) {
                grew = addTurn(open, turn);
                found = bestFirst() != NONE;
            }
            if (found) {
                walk();
            }
        }

        /** Finds all ways of so many turns; answers whether there is one. */
        private boolean addTurn(int[] open, int turn) {
            boolean grew = false;
            for (int d = 0; d < DIRECTIONS; d++) {
                for (int k = 0; k < CELLS; k++) {
                    // A way straight on is known at the cell ahead before it is asked for here.
                    int cell = d < 2 ? CELLS - 1 - k : k;
                    if (best[d * CELLS + cell] == 0) {
                        int count = stepsFrom(open, d, cell, turn);
                        if (count > 0) {
                            best[d * CELLS + cell] = turn * TURN + count;
                            grew = true;
                        }
                    }
                }
            }
            return grew;
        }

        /** The fewest steps with so many turns from a cell, the first one in a direction; 0: none. */
        private int stepsFrom(int[] open, int d, int cell, int turn) {
            int x = (cell & 31) + STEP_X[d];
            int y = (cell >> 5) + STEP_Y[d];
            boolean canLeave = ((open[cell >> 5] >>> (cell & 31)) & 1) == 1;
            if (!canLeave || !inGrid(x, y) || ((open[y] >>> x) & 1) == 0) {
                return 0;
            }
            int there = y * SIDE + x;
            if (there == goal) {
                return 1;
            }
            int fewest = 0;
            for (int e = 0; e < DIRECTIONS; e++) {
                int on = best[e * CELLS + there];
                int count = on % TURN + 1;
                if (on != 0 && on / TURN == (e == d ? turn : turn - 1)) {
                    fewest = fewest == 0 ? count : Math.min(fewest, count);
                }
            }
            return fewest;
        }

        /** The lowest direction in which a best way begins. */
        private int bestFirst() {
            int first = NONE;
            for (int d = DIRECTIONS - 1; d >= 0; d--) {
                int on = best[d * CELLS + start];
                if (on != 0 && (first == NONE || on <= best[first * CELLS + start])) {
                    first = d;
                }
            }
            return first;
        }

        private void walk() {
            int d = bestFirst();
            if (d == NONE) {
                return;
            }
            int left = best[d * CELLS + start];
            turns = left / TURN;
            steps = left % TURN;
            int cell = start;
            for (int i = 0; i < TOLD_STEPS && i < steps && d != NONE; i++) {
                row[i] = d;
                cell += STEP_Y[d] * SIDE + STEP_X[d];
                left--;
                d = directionOn(cell, d, left);
                if (d != NONE && d != row[i]) {
                    left -= TURN;
                }
            }
        }

        /** The lowest direction that goes on, behind one, just as well as what is left says. */
        private int directionOn(int cell, int behind, int left) {
            for (int d = 0; d < DIRECTIONS; d++) {
                int due = d == behind ? left : left - TURN;
                if (due > 0 && within(cell, 0, CELLS - 1) && best[d * CELLS + cell] == due) {
                    return d;
                }
            }
            return NONE;
        }
    }

    /** The choices and what their answers would leave of the states. */
    private static final class Shouts {
        private static final int MANY = 1000000;

        final int[] dx = new int[MOST_CHOICES];
        final int[] dy = new int[MOST_CHOICES];
        final int[] direction = new int[MOST_CHOICES];
        int told;
        int states;
        int best;
        int most;
        int worst;
        int first;
        int stay;
        private final int[] counts = new int[ANSWERS];
        private final int[] pairs = new int[ANSWERS * ANSWERS];
        private int weighed;
        private int weighedTwo;

        void tell(int i, int moveX, int moveY, int way) {
            dx[i] = moveX;
            dy[i] = moveY;
            direction[i] = way;
            told |= 1 << i;
        }

        private boolean isTold(int i) {
            return ((told >>> i) & 1) == 1;
        }

        private void countStates(Chart chart, Log log) {
            states = 0;
            for (int c = 0; c < chart.size; c++) {
                Coast coast = chart.coasts[c];
                states += bitsIn(coast.reach, coast.rowsAt(log.size - 1, log.slips));
            }
        }

        void weigh(Chart chart, Log log, int change) {
            if (weighed == change) {
                return;
            }
            weighed = change;
            countStates(chart, log);
            most = MANY;
            for (int i = 0; i < MOST_CHOICES; i++) {
                if (isTold(i)) {
                    Arrays.fill(counts, 0);
                    for (int c = 0; c < chart.size; c++) {
                        Coast coast = chart.coasts[c];
                        tally(coast, coast.rowsAt(log.size - 1, log.slips), i);
                    }
                    takeIfBetter(i);
                }
            }
        }

        private void tally(Coast coast, int from, int i) {
            coast.sweep(direction[i]);
            int last = Math.min(SIDE - 1, SIDE - 1 - dy[i]);
            for (int y = Math.max(0, -dy[i]); y <= last; y++) {
                int row = moved(coast.reach[from + y], dx[i]) & ~coast.landRows[y + dy[i]];
                int at = direction[i] * CELLS + (y + dy[i]) * SIDE;
                for (int k = 0; row != 0 && k < SIDE; k++) {
                    int view = coast.views[at + lowestBit(row)];
                    row &= row - 1;
                    int steps = echoSteps(view);
                    if (steps > 0) {
                        counts[steps]++;
                    }
                    if (maybeSilent(view)) {
                        counts[0]++;
                    }
                }
            }
        }

        private void takeIfBetter(int i) {
            int highest = 0;
            for (int a = 1; a < ANSWERS; a++) {
                if (counts[a] > counts[highest]) {
                    highest = a;
                }
            }
            if (counts[highest] < most) {
                best = i;
                most = counts[highest];
                worst = 2 * highest;
            }
        }

        void weighTwo(Chart chart, Log log, int change) {
            if (weighedTwo == change) {
                return;
            }
            weighedTwo = change;
            countStates(chart, log);
            stay = MANY;
            for (int i = 0; i < MOST_CHOICES; i++) {
                if (isTold(i)) {
                    int left = staysBehind(chart, log, i);
                    if (left < stay) {
                        stay = left;
                        first = i;
                    }
                }
            }
        }

        /** The most states that stay behind a first choice, with the best second for each answer. */
        private int staysBehind(Chart chart, Log log, int i) {
            Arrays.fill(counts, MANY);
            for (int j = 0; j < MOST_CHOICES; j++) {
                if (isTold(j)) {
                    Arrays.fill(pairs, 0);
                    for (int c = 0; c < chart.size; c++) {
                        Coast coast = chart.coasts[c];
                        tallyPairs(coast, coast.rowsAt(log.size - 1, log.slips), i, j);
                    }
                    for (int a = 0; a < ANSWERS; a++) {
                        counts[a] = Math.min(counts[a], mostBehind(a));
                    }
                }
            }
            int highest = 0;
            for (int a = 0; a < ANSWERS; a++) {
                highest = Math.max(highest, counts[a]);
            }
            return highest;
        }

        private int mostBehind(int answer) {
            int highest = 0;
            for (int b = 0; b < ANSWERS; b++) {
                highest = Math.max(highest, pairs[answer * ANSWERS + b]);
            }
            return highest;
        }

        private void tallyPairs(Coast coast, int from, int i, int j) {
            coast.sweep(direction[i]);
            coast.sweep(direction[j]);
            for (int y = 0; y < SIDE; y++) {
                int y1 = y + dy[i];
                int y2 = y1 + dy[j];
                if (within(y1, 0, SIDE - 1) && within(y2, 0, SIDE - 1)) {
                    int row = moved(coast.reach[from + y], dx[i]) & ~coast.landRows[y1];
                    row = moved(row, dx[j]) & ~coast.landRows[y2];
                    int at1 = direction[i] * CELLS + y1 * SIDE - dx[j];
                    int at2 = direction[j] * CELLS + y2 * SIDE;
                    for (int k = 0; row != 0 && k < SIDE; k++) {
                        int x = lowestBit(row);
                        row &= row - 1;
                        addPairs(coast.views[at1 + x], coast.views[at2 + x]);
                    }
                }
            }
        }

        private void addPairs(int view1, int view2) {
            int steps1 = echoSteps(view1) * ANSWERS;
            int steps2 = echoSteps(view2);
            boolean silent1 = maybeSilent(view1);
            boolean silent2 = maybeSilent(view2);
            if (steps1 > 0 && steps2 > 0) {
                pairs[steps1 + steps2]++;
            }
            if (steps1 > 0 && silent2) {
                pairs[steps1]++;
            }
            if (silent1 && steps2 > 0) {
                pairs[steps2]++;
            }
            if (silent1 && silent2) {
                pairs[0]++;
            }
        }
    }
}
