/**
 * The least greatest error: points in a plane, and the fit by a polynomial over a told polynomial beneath
 * that comes as near to all of them as can be.
 *
 * Every row is made in the constructor and used again, so that no call makes an object.
 */
public final class EvenErrors {
    public static final int BAD = -1, NOT = -2, FULL = -3, NONE = -4, NULL = -11, CAST = -12, INDEX = -13, SIZE = -14;

    /** A PLACE is x and 6 together: 0 .. 12. */
    private static final int PLACES = 13;
    private static final int MIDDLE = 6;
    private static final int GREATEST_Y = 99;
    private static final int GREATEST_Q = 3;
    private static final int GREATEST_DEGREE = 3;
    private static final int BENEATH = 3;
    private static final int MOST_POINTS = 8;
    private static final int MOST_NODES = GREATEST_DEGREE + 2;
    /** h grows with each STEP, so no REFERENCE comes twice; 8 FREE POINTS have at most 70. */
    private static final int MOST_STEPS = 70;
    private static final int MOST_KNOWN = 6;
    private static final int MOST_LETTERS = 90;
    private static final int MOST_TURNS = 40;
    private static final int SHEETS = 4;
    private static final int LANES = 4;
    private static final int MOST_ITEMS = 24;
    private static final int TENTHS = 10;
    private static final int FAULT = -20;
    /** 12 factorial: what lies between points of -6 .. 6, multiplied, always divides it. */
    private static final long TWELVE = 479001600L;
    private static final int UP = 1;
    private static final int DOWN = 2;

    private final Points now = new Points();
    private final Past past = new Past();
    private final Points keptPoints = new Points();
    private final Past keptPast = new Past();
    private boolean kept = false;
    private final Tape tape = new Tape();
    private final Points draft = new Points();
    private final Exchange exchange = new Exchange();
    private final Fit trial = new Fit();
    private final Odds odds = new Odds();
    private final Sheet[] sheets = new Sheet[SHEETS];

    public EvenErrors() {
        for (int k = 0; k < SHEETS; k++) {
            sheets[k] = new Sheet();
        }
    }

    // ---- 1 points

    public int point(int x, int y) {
        if (!isX(x) || !isY(y)) {
            return BAD;
        }
        int place = x + MIDDLE;
        if (now.has(place)) {
            if (now.yAt(place) == y) {
                return NOT;
            }
        } else if (now.howMany() >= MOST_POINTS) {
            return FULL;
        }
        remember();
        now.put(place, y);
        return now.howMany();
    }

    public int out(int x) {
        if (!isX(x)) {
            return BAD;
        }
        int place = x + MIDDLE;
        if (!now.has(place)) {
            return NONE;
        }
        remember();
        now.remove(place);
        return now.howMany();
    }

    public int fix(int x) {
        if (!isX(x)) {
            return BAD;
        }
        int place = x + MIDDLE;
        if (!now.has(place)) {
            return NONE;
        }
        if (!now.isFixed(place) && !now.mayFix()) {
            return NOT;
        }
        remember();
        now.turnFixed(place);
        return now.isFixed(place) ? 1 : 0;
    }

    public int degree(int d) {
        if (d < 0 || d > GREATEST_DEGREE) {
            return BAD;
        }
        if (d == now.top || Integer.bitCount(now.fixed) > d) {
            return NOT;
        }
        remember();
        int old = now.top;
        now.top = d;
        return old;
    }

    public int under(int j, int v) {
        if (j < 0 || j >= BENEATH || !isQ(v)) {
            return BAD;
        }
        int old = now.q[j];
        if (old == v) {
            return NOT;
        }
        remember();
        now.q[j] = v;
        return old + GREATEST_Q;
    }

    public int told(int x, int what) {
        if (!isX(x) || what < 0 || what > 3) {
            return BAD;
        }
        int place = x + MIDDLE;
        if (!now.has(place)) {
            return NONE;
        }
        switch (what) {
            case 0:
                return now.yAt(place) + GREATEST_Y;
            case 1:
                return now.isFixed(place) ? 1 : 0;
            case 2:
                return Integer.bitCount(now.there & placesBelow(place));
            default:
                return Math.abs(now.beneath(x));
        }
    }

    public int count(int what) {
        switch (what) {
            case 0:
                return now.top;
            case 1:
                return now.there;
            case 2:
                return now.fixed;
            case 3:
                return now.poles();
            case 4:
                return now.needed();
            case 5:
                return why();
            case 6:
                return past.known;
            default:
                return BAD;
        }
    }

    private int why() {
        if (now.poles() != 0) {
            return 1;
        }
        return now.howMany() < now.top + 2 ? 2 : 0;
    }

    public int type(int letter) {
        if (letter < 32 || letter > 126) {
            return BAD;
        }
        if (tape.length >= MOST_LETTERS) {
            return FULL;
        }
        tape.add(letter);
        return tape.length;
    }

    public int read() {
        boolean fine = tape.parse(draft);
        tape.length = 0;
        if (!fine) {
            return FAULT - tape.fault;
        }
        // A TEXT doesn't tell THE DRAW.
        draft.draw = now.draw;
        remember();
        now.take(draft);
        return now.howMany();
    }

    // ---- 2 the fit

    public long best(int what) {
        if (what < 0 || what > 7) {
            return BAD;
        }
        if (now.poles() != 0) {
            return NONE;
        }
        exchange.run(now);
        switch (what) {
            case 0:
                return exchange.leastAbove();
            case 1:
                return exchange.leastBelow();
            case 2:
                return exchange.reached(now);
            case 3:
                return exchange.reachedAbove(now);
            case 4:
                return exchange.turns(now);
            case 5:
                return exchange.alone ? 1 : 0;
            case 6:
                return exchange.steps;
            default:
                return exchange.lastSet();
        }
    }

    public long part(int j, int what) {
        if (j < 0 || j > GREATEST_DEGREE || !isFractionPart(what)) {
            return BAD;
        }
        if (!hasOneFit()) {
            return NONE;
        }
        return fraction(exchange.fit.part[j], exchange.fit.below, what);
    }

    public long value(int x, int what) {
        if (!isX(x) || !isFractionPart(what)) {
            return BAD;
        }
        int q = now.beneath(x);
        if (q == 0 || !hasOneFit()) {
            return NONE;
        }
        return fraction(exchange.fit.topAt(x), exchange.fit.below * q, what);
    }

    public long error(int x, int what) {
        if (!isX(x) || !isFractionPart(what)) {
            return BAD;
        }
        int place = x + MIDDLE;
        if (!now.has(place) || !hasOneFit()) {
            return NONE;
        }
        return fraction(exchange.fit.gapAt(now, place), exchange.fit.below * now.beneath(x), what);
    }

    public long step(int k, int what) {
        if (k < 0 || what < 0 || what > 4) {
            return BAD;
        }
        if (now.poles() != 0) {
            return NONE;
        }
        exchange.run(now);
        if (k >= exchange.steps) {
            return NONE;
        }
        switch (what) {
            case 0:
                return exchange.sets[k];
            case 1:
                return exchange.ups[k];
            case 2:
                return exchange.downs[k];
            case 3:
                return exchange.ins[k];
            default:
                return exchange.outs[k];
        }
    }

    public long level(int set, int what) {
        if (set < 0 || set >= 1 << PLACES || !isFractionPart(what)) {
            return BAD;
        }
        if (now.poles() != 0) {
            return NONE;
        }
        if ((set & ~now.free()) != 0 || Integer.bitCount(set) != now.needed()) {
            return NOT;
        }
        trial.measure(now, set);
        switch (what) {
            case 0:
                return trial.up;
            case 1:
                return trial.down;
            default:
                return trial.lean;
        }
    }

    public long lost(int c, int what) {
        if (c < 0 || c > TENTHS || what < 0 || what > 1) {
            return BAD;
        }
        if (now.poles() != 0) {
            return NONE;
        }
        exchange.run(now);
        long least = exchange.leastAbove();
        if (least == 0) {
            return 1;
        }
        odds.mark(now, trial, least, exchange.leastBelow());
        return fraction(odds.above(c), odds.below(), what);
    }

    private boolean hasOneFit() {
        if (now.poles() != 0) {
            return false;
        }
        exchange.run(now);
        return exchange.alone;
    }

    // ---- 3 what is done

    public int drift(int n) {
        if (n < 1 || n > MOST_TURNS) {
            return BAD;
        }
        for (int k = 0; k < n; k++) {
            remember();
            now.turn();
        }
        return now.howMany();
    }

    public int undo() {
        if (past.known == 0) {
            return NONE;
        }
        past.giveBack(now);
        exchange.solved = false;
        return past.known;
    }

    public int seed(int v) {
        if (v < 0) {
            return BAD;
        }
        int old = now.draw;
        now.draw = v;
        return old;
    }

    public int image() {
        keptPoints.take(now);
        keptPast.take(past);
        kept = true;
        return 1;
    }

    public int restore() {
        if (!kept) {
            return NONE;
        }
        now.take(keptPoints);
        past.take(keptPast);
        exchange.solved = false;
        return 1;
    }

    /** Ahead of each change that may be UNDONE. */
    private void remember() {
        past.keep(now);
        exchange.solved = false;
    }

    // ---- sheets

    public int degrees(int sheet, int lane, int i, int n) {
        if (!isSheet(sheet) || !isLane(lane) || n < 1 || n > MOST_POINTS) {
            return BAD;
        }
        Sheet row = sheets[sheet];
        int refused = row.refusal(lane, i, 2 * n);
        if (refused != 0) {
            return refused;
        }
        if (!row.tellsPoints(i, n)) {
            return NOT;
        }
        int set = 0;
        for (int d = 0; d <= GREATEST_DEGREE; d++) {
            if (isOfDegree(row, i, n, d)) {
                set |= 1 << d;
            }
        }
        return set;
    }

    /** All runs of d + 2 pairs side by side must lie on a polynomial of degree d at most. */
    private boolean isOfDegree(Sheet row, int i, int n, int d) {
        for (int first = 0; first + d + 2 <= n; first++) {
            if (!trial.isStraight(row, i + 2 * first, d + 2)) {
                return false;
            }
        }
        return true;
    }

    public int film(int sheet, int lane, int i) {
        if (!isSheet(sheet) || !isLane(lane)) {
            return BAD;
        }
        Sheet row = sheets[sheet];
        int items = 2 * now.howMany();
        int refused = row.refusal(lane, i, items);
        if (refused != 0) {
            return refused;
        }
        int at = i;
        for (int place = 0; place < PLACES; place++) {
            if (now.has(place)) {
                row.put(at, place - MIDDLE);
                row.put(at + 1, now.yAt(place));
                at += 2;
            }
        }
        return items;
    }

    public int sheet(int sheet, int lane, int n) {
        if (!isSheet(sheet) || !isLane(lane) || n > MOST_ITEMS) {
            return BAD;
        }
        if (n < 0) {
            return SIZE;
        }
        sheets[sheet].begin(lane, n);
        return n;
    }

    public int drop(int sheet) {
        if (!isSheet(sheet)) {
            return BAD;
        }
        Sheet row = sheets[sheet];
        if (!row.held) {
            return NULL;
        }
        row.held = false;
        return row.size;
    }

    public int item(int sheet, int lane, int i, long v) {
        if (!isSheet(sheet) || !isLane(lane)) {
            return BAD;
        }
        Sheet row = sheets[sheet];
        int refused = row.refusal(lane, i, 1);
        if (refused != 0) {
            return refused;
        }
        row.put(i, v);
        return 1;
    }

    public int copy(int from, int i, int to, int j, int n) {
        if (!isSheet(from) || !isSheet(to)) {
            return BAD;
        }
        Sheet source = sheets[from];
        Sheet target = sheets[to];
        if (!source.held || !target.held) {
            return NULL;
        }
        if (source.lane != target.lane) {
            return CAST;
        }
        if (!source.reaches(i, n) || !target.reaches(j, n)) {
            return INDEX;
        }
        System.arraycopy(source.items, i, target.items, j, n);
        return n;
    }

    // ---- numbers

    private static boolean isX(int x) {
        return x >= -MIDDLE && x <= MIDDLE;
    }

    private static boolean isY(int y) {
        return y >= -GREATEST_Y && y <= GREATEST_Y;
    }

    private static boolean isQ(int q) {
        return q >= -GREATEST_Q && q <= GREATEST_Q;
    }

    private static boolean isFractionPart(int what) {
        return what >= 0 && what <= 2;
    }

    private static boolean isSheet(int sheet) {
        return sheet >= 0 && sheet < SHEETS;
    }

    private static boolean isLane(int lane) {
        return lane >= 0 && lane < LANES;
    }

    /** The SET of all places below one. */
    private static int placesBelow(int place) {
        return (1 << place) - 1;
    }

    private static int lowest(int set) {
        return Integer.bitCount((set & -set) - 1);
    }

    private static int highest(int set) {
        int found = 0;
        for (int place = 0; place < PLACES; place++) {
            if ((set >> place & 1) == 1) {
                found = place;
            }
        }
        return found;
    }

    /** The greatest number that divides both, 0 for 0 and 0. */
    private static long shared(long a, long b) {
        long great = Math.abs(a);
        long small = Math.abs(b);
        for (int k = 0; k < 1000 && small != 0; k++) {
            long rest = great % small;
            great = small;
            small = rest;
        }
        return great;
    }

    private static long fraction(long above, long below, int what) {
        if (what == 2) {
            return above == 0 ? 0 : (above > 0) == (below > 0) ? UP : DOWN;
        }
        if (above == 0) {
            return what == 0 ? 0 : 1;
        }
        long common = shared(above, below);
        return common == 0 ? 0 : Math.abs(what == 0 ? above : below) / common;
    }

    /** POINTS, THE DEGREE, BENEATH and THE DRAW. */
    private static final class Points {
        private final int[] y = new int[PLACES];
        final int[] q = new int[BENEATH];
        int there = 0;
        int fixed = 0;
        int top = 1;
        int draw = 1;

        Points() {
            q[0] = 1;
        }

        void take(Points other) {
            System.arraycopy(other.y, 0, y, 0, PLACES);
            System.arraycopy(other.q, 0, q, 0, BENEATH);
            there = other.there;
            fixed = other.fixed;
            top = other.top;
            draw = other.draw;
        }

        /** Nothing told, not even BENEATH. */
        void clear(int d) {
            there = 0;
            fixed = 0;
            top = d;
            for (int j = 0; j < BENEATH; j++) {
                q[j] = 0;
            }
        }

        boolean has(int place) {
            return (there >> place & 1) == 1;
        }

        boolean isFixed(int place) {
            return (fixed >> place & 1) == 1;
        }

        boolean mayFix() {
            return Integer.bitCount(fixed) < top;
        }

        int yAt(int place) {
            return place >= 0 && place < PLACES ? y[place] : 0;
        }

        void put(int place, int value) {
            if (place >= 0 && place < PLACES) {
                y[place] = value;
                there |= 1 << place;
            }
        }

        void remove(int place) {
            there &= ~(1 << place);
            fixed &= ~(1 << place);
        }

        void turnFixed(int place) {
            fixed ^= 1 << place;
        }

        int howMany() {
            return Integer.bitCount(there);
        }

        int free() {
            return there & ~fixed;
        }

        /** m: of how many FREE POINTS a REFERENCE is. */
        int needed() {
            return top + 2 - Integer.bitCount(fixed);
        }

        int beneath(int x) {
            return q[0] + q[1] * x + q[2] * x * x;
        }

        int poles() {
            int set = 0;
            for (int place = 0; place < PLACES; place++) {
                if (has(place) && beneath(place - MIDDLE) == 0) {
                    set |= 1 << place;
                }
            }
            return set;
        }

        /** Whether x less each FIXED x, all multiplied, is below 0. */
        boolean isTurnedOver(int place) {
            return (Integer.bitCount(fixed & ~placesBelow(place)) & 1) == 1;
        }

        /** One turn of a DRIFT. */
        void turn() {
            draw = (draw * 1103515245 + 12345) & 0x7fffffff;
            int v = draw / 65536;
            int place = v % PLACES;
            if (has(place) || howMany() < MOST_POINTS) {
                put(place, v / 16 % (2 * GREATEST_Y + 1) - GREATEST_Y);
            }
        }
    }

    /** What may be UNDONE, the oldest first. */
    private static final class Past {
        private final Points[] rows = new Points[MOST_KNOWN];
        int known = 0;

        Past() {
            for (int k = 0; k < MOST_KNOWN; k++) {
                rows[k] = new Points();
            }
        }

        void keep(Points points) {
            if (known >= MOST_KNOWN) {
                loseOldest();
            }
            rows[known].take(points);
            known++;
        }

        private void loseOldest() {
            Points oldest = rows[0];
            for (int k = 1; k < MOST_KNOWN; k++) {
                rows[k - 1] = rows[k];
            }
            rows[MOST_KNOWN - 1] = oldest;
            known = MOST_KNOWN - 1;
        }

        void giveBack(Points points) {
            if (known > 0) {
                known--;
                points.take(rows[known]);
            }
        }

        void take(Past other) {
            for (int k = 0; k < MOST_KNOWN; k++) {
                rows[k].take(other.rows[k]);
            }
            known = other.known;
        }
    }

    /** THE TAPE, and the reading of it as a TEXT. */
    private static final class Tape {
        private static final int END = 0;
        private final int[] letters = new int[MOST_LETTERS];
        int length = 0;
        int fault = 0;
        private int at = 0;
        private int number = 0;
        private int numberAt = 0;

        void add(int letter) {
            if (length < MOST_LETTERS) {
                letters[length] = letter;
                length++;
            }
        }

        /** Whether it is a TEXT; if not, the fault is the place of the FAULT. */
        boolean parse(Points to) {
            at = 0;
            int d = next() - '0';
            if (d < 0 || d > GREATEST_DEGREE) {
                return failAt(at);
            }
            at++;
            to.clear(d);
            return goPast(';') && parseBeneath(to) && parsePoints(to);
        }

        private boolean parseBeneath(Points to) {
            for (int j = 0; j < BENEATH; j++) {
                if (!parseNumber()) {
                    return false;
                }
                if (!isQ(number)) {
                    return failAt(numberAt);
                }
                to.q[j] = number;
                if (j == BENEATH - 1 || next() != ',') {
                    return goPast(';');
                }
                at++;
            }
            return true;
        }

        private boolean parsePoints(Points to) {
            for (int k = 0; k <= MOST_POINTS && next() != END; k++) {
                if (k == MOST_POINTS) {
                    return failAt(at);
                }
                if (!parsePoint(to)) {
                    return false;
                }
            }
            return true;
        }

        private boolean parsePoint(Points to) {
            if (!goPast('(') || !parseNumber()) {
                return false;
            }
            int place = number + MIDDLE;
            if (!isX(number) || to.has(place)) {
                return failAt(numberAt);
            }
            if (!goPast(',') || !parseNumber()) {
                return false;
            }
            to.put(place, number);
            if (!goPast(')')) {
                return false;
            }
            if (next() == '!') {
                if (!to.mayFix()) {
                    return failAt(at);
                }
                to.turnFixed(place);
                at++;
            }
            return true;
        }

        /** Two figures at most: a third is left standing, where it is the FAULT. */
        private boolean parseNumber() {
            boolean minus = next() == '-';
            numberAt = at;
            if (minus) {
                at++;
            }
            if (!isFigure(next())) {
                return failAt(at);
            }
            number = next() - '0';
            at++;
            // A blank ends the row of figures, so none is gone over here.
            if (isFigure(here())) {
                number = 10 * number + here() - '0';
                at++;
            }
            number = minus ? -number : number;
            return true;
        }

        private boolean goPast(int letter) {
            if (next() != letter) {
                return failAt(at);
            }
            at++;
            return true;
        }

        /** The next letter behind blanks. */
        private int next() {
            for (int k = 0; k < MOST_LETTERS && here() == ' '; k++) {
                at++;
            }
            return here();
        }

        private int here() {
            return at >= 0 && at < length && at < MOST_LETTERS ? letters[at] : END;
        }

        private static boolean isFigure(int letter) {
            return letter >= '0' && letter <= '9';
        }

        private boolean failAt(int place) {
            fault = place;
            return false;
        }
    }

    /**
     * A FIT: LEVEL on a REFERENCE, or through all POINTS.
     *
     * Its NODES are the points that it is made of. A weight is 1 by x of the node less each other node's x,
     * multiplied, all weights made whole by one scale: of a polynomial of too low a degree, the values at
     * the nodes times the weights are 0 together.
     */
    private static final class Fit {
        private final int[] xs = new int[MOST_NODES];
        private final long[] weights = new long[MOST_NODES];
        private final long[] bare = new long[MOST_NODES];
        private int nodes = 0;
        private long scale = 1;
        /** The numbers of x to the j in P, all by one number below. */
        final long[] part = new long[GREATEST_DEGREE + 1];
        long below = 1;
        /** h, and the LEAN at the first point of the REFERENCE. */
        long up = 0;
        long down = 1;
        int lean = 0;

        private void gather(int set) {
            nodes = 0;
            for (int place = 0; place < PLACES && nodes < MOST_NODES; place++) {
                if ((set >> place & 1) == 1) {
                    xs[nodes] = place - MIDDLE;
                    nodes++;
                }
            }
        }

        private void weigh() {
            long common = 0;
            for (int i = 0; i < nodes; i++) {
                long apart = 1;
                for (int j = 0; j < nodes; j++) {
                    apart *= j == i ? 1 : xs[i] - xs[j];
                }
                weights[i] = apart == 0 ? 0 : TWELVE / apart;
                common = shared(common, weights[i]);
            }
            scale = 1;
            if (common != 0) {
                scale = TWELVE / common;
                for (int i = 0; i < nodes; i++) {
                    weights[i] /= common;
                }
            }
        }

        /** h and the LEAN of the FIT that is LEVEL on a REFERENCE. */
        void measure(Points points, int set) {
            gather(set | points.fixed);
            weigh();
            long sum = 0;
            long size = 0;
            for (int i = 0; i < nodes; i++) {
                int place = xs[i] + MIDDLE;
                long weight = weights[i] * points.beneath(xs[i]);
                sum += weight * points.yAt(place);
                if (!points.isFixed(place)) {
                    size += Math.abs(weight);
                }
            }
            // The sum has the sign of the last point's LEAN, which is the first one's if they are odd in number.
            boolean asFirst = (Integer.bitCount(set) & 1) == 1;
            lean = sum == 0 ? 0 : (sum > 0) == asFirst ? UP : DOWN;
            long common = shared(sum, size);
            up = common == 0 ? 0 : Math.abs(sum) / common;
            down = common == 0 ? 1 : size / common;
        }

        /** Through all POINTS, being no more than the degree and 1. */
        void goThrough(Points points) {
            gather(points.there);
            weigh();
            up = 0;
            down = 1;
            lean = 0;
            shape(points);
        }

        /** P, once h is measured. */
        void shape(Points points) {
            for (int k = 0; k <= GREATEST_DEGREE; k++) {
                part[k] = 0;
            }
            int rank = 0;
            for (int i = 0; i < nodes; i++) {
                int place = xs[i] + MIDDLE;
                int q = points.beneath(xs[i]);
                long goal = points.yAt(place) * q * down;
                if (!points.isFixed(place)) {
                    boolean above = (leanOf(rank) == UP) != points.isTurnedOver(place);
                    goal -= (above ? up : -up) * Math.abs(q);
                    rank++;
                }
                addNode(i, goal);
            }
            below = scale * down;
            shorten();
        }

        private void addNode(int i, long goal) {
            multiplyOthers(i);
            for (int k = 0; k <= GREATEST_DEGREE; k++) {
                part[k] += weights[i] * goal * bare[k];
            }
        }

        /** The polynomial that is 0 at each node but one. */
        private void multiplyOthers(int i) {
            bare[0] = 1;
            for (int k = 1; k < MOST_NODES; k++) {
                bare[k] = 0;
            }
            for (int j = 0; j < nodes; j++) {
                if (j == i) {
                    continue;
                }
                for (int k = MOST_NODES - 1; k > 0; k--) {
                    bare[k] = bare[k - 1] - xs[j] * bare[k];
                }
                bare[0] = -xs[j] * bare[0];
            }
        }

        private void shorten() {
            long common = below;
            for (int k = 0; k <= GREATEST_DEGREE; k++) {
                common = shared(common, part[k]);
            }
            if (common != 0) {
                for (int k = 0; k <= GREATEST_DEGREE; k++) {
                    part[k] /= common;
                }
                below /= common;
            }
        }

        /** LEAN of the REFERENCE's point of a number by x; as told, if h is 0. */
        int leanOf(int rank) {
            int first = lean == 0 ? UP : lean;
            return (rank & 1) == 0 ? first : UP + DOWN - first;
        }

        /** P at x, times the number below. */
        long topAt(int x) {
            return part[0] + x * (part[1] + x * (part[2] + x * part[3]));
        }

        /** THE ERROR at a place, times Q there, times the number below. */
        long gapAt(Points points, int place) {
            int x = place - MIDDLE;
            return below * points.yAt(place) * points.beneath(x) - topAt(x);
        }

        int leanAt(Points points, int place) {
            long gap = gapAt(points, place);
            return gap == 0 ? 0 : (gap > 0) != points.isTurnedOver(place) ? UP : DOWN;
        }

        /** How THE ERRORS of two places compare, without their signs; no number here comes near 2 to the 63. */
        int compareErrors(Points points, int one, int other) {
            long first = Math.abs(gapAt(points, one) * points.beneath(other - MIDDLE));
            long second = Math.abs(gapAt(points, other) * points.beneath(one - MIDDLE));
            return Long.compare(first, second);
        }

        /** Whether pairs x, y lie on a polynomial of a degree that is by 2 less than how many they are. */
        boolean isStraight(Sheet row, int i, int pairs) {
            nodes = Math.min(pairs, MOST_NODES);
            for (int k = 0; k < nodes; k++) {
                xs[k] = (int) row.at(i + 2 * k);
            }
            weigh();
            long sum = 0;
            for (int k = 0; k < nodes; k++) {
                sum += weights[k] * row.at(i + 2 * k + 1);
            }
            return sum == 0;
        }
    }

    /** THE EXCHANGE, with its STEPS, and THE BEST FIT. */
    private static final class Exchange {
        final Fit fit = new Fit();
        final int[] sets = new int[MOST_STEPS];
        final long[] ups = new long[MOST_STEPS];
        final long[] downs = new long[MOST_STEPS];
        final int[] ins = new int[MOST_STEPS];
        final int[] outs = new int[MOST_STEPS];
        int steps = 0;
        boolean alone = false;
        /** False as soon as POINTS are not those of the last run. */
        boolean solved = false;

        /** Of POINTS that are no POLES. */
        void run(Points points) {
            if (solved) {
                return;
            }
            solved = true;
            steps = 0;
            int missing = points.top + 2 - points.howMany();
            alone = missing <= 1;
            if (missing == 1) {
                fit.goThrough(points);
            }
            int set = missing < 1 ? firstOf(points.free(), points.needed()) : 0;
            for (int k = 0; k < MOST_STEPS && set != 0; k++) {
                fit.measure(points, set);
                fit.shape(points);
                int worst = worstOf(points);
                boolean last = fit.compareErrors(points, worst, lowest(set)) == 0;
                int gone = last ? NONE : leaving(points, set, worst);
                keepStep(k, set, last ? NONE : worst, gone);
                set = last ? 0 : (set | 1 << worst) & ~(1 << gone);
            }
        }

        private void keepStep(int k, int set, int in, int out) {
            sets[k] = set;
            ups[k] = fit.up;
            downs[k] = fit.down;
            ins[k] = in;
            outs[k] = out;
            steps = k + 1;
        }

        private static int firstOf(int set, int n) {
            int first = 0;
            for (int place = 0; place < PLACES; place++) {
                if ((set >> place & 1) == 1 && Integer.bitCount(first) < n) {
                    first |= 1 << place;
                }
            }
            return first;
        }

        private int worstOf(Points points) {
            int free = points.free();
            int worst = lowest(free);
            for (int place = worst + 1; place < PLACES; place++) {
                if ((free >> place & 1) == 1 && fit.compareErrors(points, place, worst) > 0) {
                    worst = place;
                }
            }
            return worst;
        }

        private int leaving(Points points, int set, int worst) {
            int lower = set & placesBelow(worst);
            int upper = set & ~lower;
            int rank = Integer.bitCount(lower);
            int lean = fit.leanAt(points, worst);
            if (lower != 0 && fit.leanOf(rank - 1) == lean) {
                return highest(lower);
            }
            if (upper != 0 && fit.leanOf(rank) == lean) {
                return lowest(upper);
            }
            return lower == 0 ? highest(upper) : lowest(lower);
        }

        int lastSet() {
            return steps == 0 ? 0 : sets[steps - 1];
        }

        long leastAbove() {
            return steps == 0 ? 0 : ups[steps - 1];
        }

        long leastBelow() {
            return steps == 0 ? 1 : downs[steps - 1];
        }

        int reached(Points points) {
            int set = 0;
            int free = points.free();
            int of = lastSet();
            for (int place = 0; place < PLACES && of != 0; place++) {
                if ((free >> place & 1) == 1 && fit.compareErrors(points, place, lowest(of)) == 0) {
                    set |= 1 << place;
                }
            }
            return set;
        }

        int reachedAbove(Points points) {
            int reached = reached(points);
            int set = 0;
            for (int place = 0; place < PLACES; place++) {
                if ((reached >> place & 1) == 1) {
                    long gap = fit.gapAt(points, place);
                    int q = points.beneath(place - MIDDLE);
                    set |= gap != 0 && (gap > 0) == (q > 0) ? 1 << place : 0;
                }
            }
            return set;
        }

        int turns(Points points) {
            int reached = reached(points);
            int turns = 0;
            int last = 0;
            for (int place = 0; place < PLACES; place++) {
                if ((reached >> place & 1) == 1) {
                    int lean = fit.leanAt(points, place);
                    turns += lean != last ? 1 : 0;
                    last = lean;
                }
            }
            return turns;
        }
    }

    /** Which FREE POINTS, left alone, keep THE LEAST as great, and how likely that is. */
    private static final class Odds {
        private final int[] places = new int[MOST_POINTS];
        private final boolean[] safe = new boolean[1 << MOST_POINTS];
        private final long[] ways = new long[MOST_POINTS + 1];
        private int free = 0;

        /**
         * THE LEAST is the greatest h of all REFERENCES: it stays as great, where one with this h is left.
         */
        void mark(Points points, Fit trial, long up, long down) {
            gather(points.free());
            int all = 1 << free;
            int needed = points.needed();
            for (int mask = 0; mask < all; mask++) {
                safe[mask] = false;
                if (Integer.bitCount(mask) == needed) {
                    trial.measure(points, setOf(mask));
                    safe[mask] = trial.up == up && trial.down == down;
                }
            }
            spreadSafety(all);
            countWays(all);
        }

        /** What holds a safe set is safe. */
        private void spreadSafety(int all) {
            for (int k = 0; k < free; k++) {
                for (int mask = 0; mask < all; mask++) {
                    if ((mask >> k & 1) == 1 && safe[mask ^ 1 << k]) {
                        safe[mask] = true;
                    }
                }
            }
        }

        private void gather(int set) {
            free = 0;
            for (int place = 0; place < PLACES && free < MOST_POINTS; place++) {
                if ((set >> place & 1) == 1) {
                    places[free] = place;
                    free++;
                }
            }
        }

        private int setOf(int mask) {
            int set = 0;
            for (int k = 0; k < free; k++) {
                if ((mask >> k & 1) == 1) {
                    set |= 1 << places[k];
                }
            }
            return set;
        }

        private void countWays(int all) {
            for (int k = 0; k <= MOST_POINTS; k++) {
                ways[k] = 0;
            }
            for (int mask = 0; mask < all; mask++) {
                ways[Integer.bitCount(mask)] += safe[mask] ? 1 : 0;
            }
        }

        long above(int c) {
            long sum = 0;
            for (int left = 0; left <= free; left++) {
                sum += ways[left] * power(TENTHS - c, left) * power(c, free - left);
            }
            return sum;
        }

        long below() {
            return power(TENTHS, free);
        }

        private static long power(int base, int times) {
            long product = 1;
            for (int k = 0; k < times; k++) {
                product *= base;
            }
            return product;
        }
    }

    /** Nothing, or a row of a LANE; each item is held as a long that fits its LANE. */
    private static final class Sheet {
        final long[] items = new long[MOST_ITEMS];
        boolean held = false;
        int lane = 0;
        int size = 0;

        void begin(int ofLane, int n) {
            held = true;
            lane = ofLane;
            size = n;
            for (int k = 0; k < MOST_ITEMS; k++) {
                items[k] = 0;
            }
        }

        /** NULL, CAST, INDEX, or 0: n items from i on are there. */
        int refusal(int ofLane, int i, int n) {
            if (!held) {
                return NULL;
            }
            if (lane != ofLane) {
                return CAST;
            }
            return reaches(i, n) ? 0 : INDEX;
        }

        boolean reaches(int i, int n) {
            return i >= 0 && n >= 0 && i <= size && n <= size - i;
        }

        long at(int i) {
            return i >= 0 && i < size && i < MOST_ITEMS ? items[i] : 0;
        }

        void put(int i, long v) {
            if (i < 0 || i >= size || i >= MOST_ITEMS) {
                return;
            }
            switch (lane) {
                case 0:
                    items[i] = (byte) v;
                    break;
                case 1:
                    items[i] = (short) v;
                    break;
                case 2:
                    items[i] = (int) v;
                    break;
                default:
                    items[i] = v;
                    break;
            }
        }

        /** Whether n pairs from i on are x, y as told, no two x alike. */
        boolean tellsPoints(int i, int n) {
            int seen = 0;
            for (int k = 0; k < n; k++) {
                long x = at(i + 2 * k);
                long y = at(i + 2 * k + 1);
                if (x < -MIDDLE || x > MIDDLE || y < -GREATEST_Y || y > GREATEST_Y) {
                    return false;
                }
                int bit = 1 << (int) x + MIDDLE;
                if ((seen & bit) != 0) {
                    return false;
                }
                seen |= bit;
            }
            return true;
        }
    }
}
