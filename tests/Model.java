import java.math.BigInteger;
import java.util.ArrayList;
import java.util.Collections;
import java.util.List;
import java.util.Map;
import java.util.TreeMap;

/**
 * The document once more, by other means: exact fractions without bounds, systems of equations solved by
 * elimination, THE LEAST as the greatest h of all REFERENCES, a TEXT by what may stand next at each letter.
 * It makes objects as it likes and is slow; RandomRunsTest holds EvenErrors against it.
 */
final class Model {
    static final long BAD = -1, NOT = -2, FULL = -3, NONE = -4, NULL = -11, CAST = -12, INDEX = -13, SIZE = -14;

    /** An exact fraction, in lowest terms. */
    static final class Ratio implements Comparable<Ratio> {
        static final Ratio ZERO = of(0);
        final BigInteger above;
        final BigInteger below;

        Ratio(BigInteger above, BigInteger below) {
            BigInteger common = above.gcd(below);
            if (below.signum() < 0) {
                common = common.negate();
            }
            this.above = above.divide(common);
            this.below = below.divide(common);
        }

        static Ratio of(long n) {
            return new Ratio(BigInteger.valueOf(n), BigInteger.ONE);
        }

        Ratio plus(Ratio o) {
            return new Ratio(above.multiply(o.below).add(o.above.multiply(below)), below.multiply(o.below));
        }

        Ratio minus(Ratio o) {
            return plus(new Ratio(o.above.negate(), o.below));
        }

        Ratio times(Ratio o) {
            return new Ratio(above.multiply(o.above), below.multiply(o.below));
        }

        Ratio by(Ratio o) {
            return new Ratio(above.multiply(o.below), below.multiply(o.above));
        }

        Ratio abs() {
            return new Ratio(above.abs(), below);
        }

        int sign() {
            return above.signum();
        }

        long told(int what) {
            return what == 0 ? above.abs().longValueExact()
                : what == 1 ? below.longValueExact() : sign() == 0 ? 0 : sign() > 0 ? 1 : 2;
        }

        @Override
        public int compareTo(Ratio o) {
            return above.multiply(o.below).compareTo(o.above.multiply(below));
        }
    }

    /** x to y and whether it is FIXED; degree; beneath; draw. Never changed once it is kept. */
    static final class State {
        TreeMap<Integer, Integer> ys = new TreeMap<>();
        TreeMap<Integer, Boolean> fixed = new TreeMap<>();
        int d = 1;
        int[] q = {1, 0, 0};
        long draw = 1;

        State same() {
            State s = new State();
            s.ys.putAll(ys);
            s.fixed.putAll(fixed);
            s.d = d;
            s.q = q.clone();
            s.draw = draw;
            return s;
        }

        int fixedOnes() {
            return Collections.frequency(new ArrayList<>(fixed.values()), true);
        }

        List<Integer> free() {
            List<Integer> xs = new ArrayList<>();
            for (int x : ys.keySet()) {
                if (!fixed.get(x)) {
                    xs.add(x);
                }
            }
            return xs;
        }

        int m() {
            return d + 2 - fixedOnes();
        }

        long beneath(int x) {
            return q[0] + q[1] * x + q[2] * x * x;
        }

        boolean hasPole() {
            for (int x : ys.keySet()) {
                if (beneath(x) == 0) {
                    return true;
                }
            }
            return false;
        }
    }

    /** One STEP: its REFERENCE, h, and what comes in and goes out (null: none). */
    static final class Step {
        List<Integer> reference;
        Ratio h;
        Integer in;
        Integer gone;
    }

    State now = new State();
    List<State> past = new ArrayList<>();
    State imageNow;
    List<State> imagePast;
    StringBuilder tape = new StringBuilder();
    long[][] sheets = new long[4][];
    int[] lanes = new int[4];

    // ---- solving

    /** Of rows a .. | b, as many as unknowns; null if there isn't just one answer. */
    static Ratio[] eliminate(Ratio[][] rows) {
        int n = rows.length;
        for (int c = 0; c < n; c++) {
            int p = c;
            while (p < n && rows[p][c].sign() == 0) {
                p++;
            }
            if (p == n) {
                return null;
            }
            Ratio[] swap = rows[p];
            rows[p] = rows[c];
            rows[c] = swap;
            for (int r = 0; r < n; r++) {
                if (r != c) {
                    Ratio f = rows[r][c].by(rows[c][c]);
                    for (int k = c; k <= n; k++) {
                        rows[r][k] = rows[r][k].minus(f.times(rows[c][k]));
                    }
                }
            }
        }
        Ratio[] answer = new Ratio[n];
        for (int r = 0; r < n; r++) {
            answer[r] = rows[r][n].by(rows[r][r]);
        }
        return answer;
    }

    static Ratio at(Ratio[] p, int x) {
        Ratio sum = Ratio.ZERO;
        for (int j = p.length - 1; j >= 0; j--) {
            sum = sum.times(Ratio.of(x)).plus(p[j]);
        }
        return sum;
    }

    static Ratio errorAt(State s, Ratio[] p, int x) {
        return Ratio.of(s.ys.get(x)).minus(at(p, x).by(Ratio.of(s.beneath(x))));
    }

    static int lean(State s, Ratio[] p, int x) {
        long sign = errorAt(s, p, x).sign() * Long.signum(s.beneath(x));
        for (int f : s.ys.keySet()) {
            if (s.fixed.get(f)) {
                sign *= Integer.signum(x - f);
            }
        }
        return (int) sign;
    }

    /**
     * The FIT whose ERRORS on the reference lean up, down, .. by h: P's numbers, then h, which may be below 0
     * (then it leans down, up, ..).
     */
    static Ratio[] levelFit(State s, List<Integer> reference) {
        int n = s.d + 2;
        Ratio[][] rows = new Ratio[n][];
        int r = 0;
        int turn = 1;
        for (int x : s.ys.keySet()) {
            boolean isFixed = s.fixed.get(x);
            if (!isFixed && !reference.contains(x)) {
                continue;
            }
            Ratio[] row = new Ratio[n + 1];
            for (int j = 0; j <= s.d; j++) {
                row[j] = Ratio.of((long) Math.pow(x, j)).by(Ratio.of(s.beneath(x)));
            }
            row[n - 1] = Ratio.ZERO;
            if (!isFixed) {
                long sign = turn * Long.signum(s.beneath(x));
                for (int f : s.ys.keySet()) {
                    if (s.fixed.get(f)) {
                        sign *= Integer.signum(x - f);
                    }
                }
                row[n - 1] = Ratio.of(sign);
                turn = -turn;
            }
            row[n] = Ratio.of(s.ys.get(x));
            rows[r++] = row;
        }
        return eliminate(rows);
    }

    static Ratio[] polynomial(State s, Ratio[] answer) {
        Ratio[] p = new Ratio[4];
        for (int j = 0; j < 4; j++) {
            p[j] = j <= s.d ? answer[j] : Ratio.ZERO;
        }
        return p;
    }

    /** The FIT through all of d + 1 POINTS. */
    static Ratio[] throughAll(State s) {
        int n = s.d + 1;
        Ratio[][] rows = new Ratio[n][];
        int r = 0;
        for (int x : s.ys.keySet()) {
            Ratio[] row = new Ratio[n + 1];
            for (int j = 0; j < n; j++) {
                row[j] = Ratio.of((long) Math.pow(x, j));
            }
            row[n] = Ratio.of(s.ys.get(x) * s.beneath(x));
            rows[r++] = row;
        }
        return polynomial(s, eliminate(rows));
    }

    static void choose(List<Integer> of, int n, int from, List<Integer> so, List<List<Integer>> all) {
        if (so.size() == n) {
            all.add(new ArrayList<>(so));
            return;
        }
        for (int k = from; k < of.size(); k++) {
            so.add(of.get(k));
            choose(of, n, k + 1, so, all);
            so.remove(so.size() - 1);
        }
    }

    /** THE LEAST if just these FREE POINTS (and all FIXED) are: the greatest h of all REFERENCES. */
    static Ratio least(State s, List<Integer> free, Map<List<Integer>, Ratio> known) {
        List<List<Integer>> all = new ArrayList<>();
        choose(free, s.m(), 0, new ArrayList<>(), all);
        Ratio least = Ratio.ZERO;
        for (List<Integer> reference : all) {
            Ratio h = known.get(reference);
            if (h == null) {
                h = levelFit(s, reference)[s.d + 1].abs();
                known.put(reference, h);
            }
            least = h.compareTo(least) > 0 ? h : least;
        }
        return least;
    }

    static List<Step> exchange(State s) {
        List<Step> steps = new ArrayList<>();
        if (s.ys.size() < s.d + 2) {
            return steps;
        }
        List<Integer> free = s.free();
        List<Integer> reference = new ArrayList<>(free.subList(0, s.m()));
        while (true) {
            Ratio[] answer = levelFit(s, reference);
            Ratio[] p = polynomial(s, answer);
            Step step = new Step();
            step.reference = new ArrayList<>(reference);
            step.h = answer[s.d + 1].abs();
            steps.add(step);
            Integer worst = null;
            for (int x : free) {
                if (worst == null || errorAt(s, p, x).abs().compareTo(errorAt(s, p, worst).abs()) > 0) {
                    worst = x;
                }
            }
            if (errorAt(s, p, worst).abs().compareTo(step.h) == 0) {
                return steps;
            }
            int first = step.h.sign() == 0 ? 1 : answer[s.d + 1].sign();
            int came = lean(s, p, worst);
            step.in = worst;
            step.gone = goes(reference, worst, came, first);
            reference.remove(step.gone);
            reference.add(worst);
            Collections.sort(reference);
        }
    }

    static Integer goes(List<Integer> reference, int worst, int came, int first) {
        int m = reference.size();
        for (int k = 0; k < m; k++) {
            int leanHere = k % 2 == 0 ? first : -first;
            boolean next = reference.get(k) < worst ? k == m - 1 || reference.get(k + 1) > worst
                : k == 0 || reference.get(k - 1) < worst;
            if (next && leanHere == came) {
                return reference.get(k);
            }
        }
        return worst < reference.get(0) ? reference.get(m - 1) : reference.get(0);
    }

    /** P of THE BEST FIT, or null if there is not one alone. */
    static Ratio[] bestFit(State s) {
        if (s.ys.size() <= s.d) {
            return null;
        }
        if (s.ys.size() == s.d + 1) {
            return throughAll(s);
        }
        List<Step> steps = exchange(s);
        return polynomial(s, levelFit(s, steps.get(steps.size() - 1).reference));
    }

    // ---- 1 points

    static boolean in(long n, long least, long most) {
        return n >= least && n <= most;
    }

    static int set(List<Integer> xs) {
        int set = 0;
        for (int x : xs) {
            set |= 1 << x + 6;
        }
        return set;
    }

    void change(State next) {
        past.add(now);
        if (past.size() > 6) {
            past.remove(0);
        }
        now = next;
    }

    long point(int x, int y) {
        if (!in(x, -6, 6) || !in(y, -99, 99)) {
            return BAD;
        }
        if (now.ys.containsKey(x) && now.ys.get(x) == y) {
            return NOT;
        }
        if (!now.ys.containsKey(x) && now.ys.size() == 8) {
            return FULL;
        }
        State next = now.same();
        next.ys.put(x, y);
        next.fixed.putIfAbsent(x, false);
        change(next);
        return next.ys.size();
    }

    long out(int x) {
        if (!in(x, -6, 6)) {
            return BAD;
        }
        if (!now.ys.containsKey(x)) {
            return NONE;
        }
        State next = now.same();
        next.ys.remove(x);
        next.fixed.remove(x);
        change(next);
        return next.ys.size();
    }

    long fix(int x) {
        if (!in(x, -6, 6)) {
            return BAD;
        }
        if (!now.ys.containsKey(x)) {
            return NONE;
        }
        boolean was = now.fixed.get(x);
        if (!was && now.fixedOnes() == now.d) {
            return NOT;
        }
        State next = now.same();
        next.fixed.put(x, !was);
        change(next);
        return was ? 0 : 1;
    }

    long degree(int d) {
        if (!in(d, 0, 3)) {
            return BAD;
        }
        if (d == now.d || now.fixedOnes() > d) {
            return NOT;
        }
        long was = now.d;
        State next = now.same();
        next.d = d;
        change(next);
        return was;
    }

    long under(int j, int v) {
        if (!in(j, 0, 2) || !in(v, -3, 3)) {
            return BAD;
        }
        if (now.q[j] == v) {
            return NOT;
        }
        long was = now.q[j];
        State next = now.same();
        next.q[j] = v;
        change(next);
        return was + 3;
    }

    long told(int x, int what) {
        if (!in(x, -6, 6) || !in(what, 0, 3)) {
            return BAD;
        }
        if (!now.ys.containsKey(x)) {
            return NONE;
        }
        return what == 0 ? now.ys.get(x) + 99 : what == 1 ? now.fixed.get(x) ? 1 : 0
            : what == 2 ? now.ys.headMap(x).size() : Math.abs(now.beneath(x));
    }

    long count(int what) {
        List<Integer> all = new ArrayList<>(now.ys.keySet());
        List<Integer> fixedOnes = new ArrayList<>(all);
        fixedOnes.removeAll(now.free());
        List<Integer> poles = new ArrayList<>(all);
        poles.removeIf(x -> now.beneath(x) != 0);
        switch (what) {
            case 0: return now.d;
            case 1: return set(all);
            case 2: return set(fixedOnes);
            case 3: return set(poles);
            case 4: return now.m();
            case 5: return now.hasPole() ? 1 : all.size() < now.d + 2 ? 2 : 0;
            case 6: return past.size();
            default: return BAD;
        }
    }

    long type(int letter) {
        if (!in(letter, 32, 126)) {
            return BAD;
        }
        if (tape.length() == 90) {
            return FULL;
        }
        tape.append((char) letter);
        return tape.length();
    }

    /** A machine of states, letter by letter: what is looked for is told by a letter of its own. */
    long read() {
        String text = tape.toString();
        tape = new StringBuilder();
        State next = new State();
        next.draw = now.draw;
        next.q = new int[] {0, 0, 0};
        String look = "d";
        int k = 0;
        int qs = 0;
        int x = 0;
        while (k < text.length()) {
            char c = text.charAt(k);
            if (c == ' ') {
                k++;
            } else if (look.equals("d")) {
                if (!in(c, '0', '3')) {
                    return -20 - k;
                }
                next.d = c - '0';
                look = "first;";
                k++;
            } else if (look.equals("first;")) {
                if (c != ';') {
                    return -20 - k;
                }
                look = "q";
                k++;
            } else if (look.equals("q") || look.equals("x") || look.equals("y")) {
                int start = k;
                int sign = 1;
                if (c == '-') {
                    sign = -1;
                    k++;
                    while (k < text.length() && text.charAt(k) == ' ') {
                        k++;
                    }
                }
                int end = k;
                while (end < text.length() && end < k + 2 && Character.isDigit(text.charAt(end))) {
                    end++;
                }
                if (end == k) {
                    return -20 - k;
                }
                int n = sign * Integer.parseInt(text.substring(k, end));
                if (look.equals("q")) {
                    if (!in(n, -3, 3)) {
                        return -20 - start;
                    }
                    next.q[qs++] = n;
                    look = "behind q";
                } else if (look.equals("x")) {
                    if (!in(n, -6, 6) || next.ys.containsKey(n)) {
                        return -20 - start;
                    }
                    x = n;
                    look = "comma";
                } else {
                    next.ys.put(x, n);
                    next.fixed.put(x, false);
                    look = ")";
                }
                k = end;
            } else if (look.equals("behind q")) {
                if (c == ';') {
                    look = "(";
                } else if (c == ',' && qs < 3) {
                    look = "q";
                } else {
                    return -20 - k;
                }
                k++;
            } else if (look.equals("(") || look.equals("( or !")) {
                if (c == '!' && look.equals("( or !") && next.fixedOnes() < next.d) {
                    next.fixed.put(x, true);
                    look = "(";
                } else if (c == '(' && next.ys.size() < 8) {
                    look = "x";
                } else {
                    return -20 - k;
                }
                k++;
            } else if (look.equals("comma")) {
                if (c != ',') {
                    return -20 - k;
                }
                look = "y";
                k++;
            } else {
                if (c != ')') {
                    return -20 - k;
                }
                look = "( or !";
                k++;
            }
        }
        if (!look.startsWith("(")) {
            return -20 - text.length();
        }
        change(next);
        return next.ys.size();
    }

    // ---- 2 the fit

    long best(int what) {
        if (!in(what, 0, 7)) {
            return BAD;
        }
        if (now.hasPole()) {
            return NONE;
        }
        Ratio least = least(now, now.free(), new TreeMapOfLists());
        if (what < 2) {
            return least.told(what);
        }
        if (what == 5) {
            return now.ys.size() > now.d ? 1 : 0;
        }
        List<Step> steps = exchange(now);
        if (steps.isEmpty()) {
            return 0;
        }
        Step last = steps.get(steps.size() - 1);
        Ratio[] p = bestFit(now);
        List<Integer> reached = new ArrayList<>();
        List<Integer> above = new ArrayList<>();
        int turns = 0;
        int lastLean = 0;
        for (int x : now.free()) {
            if (errorAt(now, p, x).abs().compareTo(least) == 0) {
                reached.add(x);
                if (errorAt(now, p, x).sign() > 0) {
                    above.add(x);
                }
                if (lean(now, p, x) != lastLean) {
                    lastLean = lean(now, p, x);
                    turns++;
                }
            }
        }
        return what == 2 ? set(reached) : what == 3 ? set(above) : what == 4 ? least.sign() == 0 ? 0 : turns
            : what == 6 ? steps.size() : set(last.reference);
    }

    static final class TreeMapOfLists extends TreeMap<List<Integer>, Ratio> {
        private static final long serialVersionUID = 1L;

        TreeMapOfLists() {
            super((a, b) -> a.toString().compareTo(b.toString()));
        }
    }

    long part(int j, int what) {
        if (!in(j, 0, 3) || !in(what, 0, 2)) {
            return BAD;
        }
        Ratio[] p = now.hasPole() ? null : bestFit(now);
        return p == null ? NONE : p[j].told(what);
    }

    long value(int x, int what) {
        if (!in(x, -6, 6) || !in(what, 0, 2)) {
            return BAD;
        }
        Ratio[] p = now.hasPole() ? null : bestFit(now);
        return p == null || now.beneath(x) == 0 ? NONE : at(p, x).by(Ratio.of(now.beneath(x))).told(what);
    }

    long error(int x, int what) {
        if (!in(x, -6, 6) || !in(what, 0, 2)) {
            return BAD;
        }
        Ratio[] p = now.hasPole() ? null : bestFit(now);
        return p == null || !now.ys.containsKey(x) ? NONE : errorAt(now, p, x).told(what);
    }

    long step(int k, int what) {
        if (k < 0 || !in(what, 0, 4)) {
            return BAD;
        }
        if (now.hasPole()) {
            return NONE;
        }
        List<Step> steps = exchange(now);
        if (k >= steps.size()) {
            return NONE;
        }
        Step s = steps.get(k);
        return what == 0 ? set(s.reference) : what < 3 ? s.h.told(what - 1)
            : s.in == null ? NONE : what == 3 ? s.in + 6 : s.gone + 6;
    }

    long level(int set, int what) {
        if (!in(set, 0, 8191) || !in(what, 0, 2)) {
            return BAD;
        }
        if (now.hasPole()) {
            return NONE;
        }
        List<Integer> reference = new ArrayList<>();
        for (int x = -6; x <= 6; x++) {
            if ((set >> x + 6 & 1) == 1) {
                reference.add(x);
            }
        }
        if (reference.size() != now.m() || !now.free().containsAll(reference)) {
            return NOT;
        }
        Ratio[] answer = levelFit(now, reference);
        Ratio h = answer[now.d + 1];
        if (what < 2) {
            return h.told(what);
        }
        int lean = lean(now, polynomial(now, answer), reference.get(0));
        return lean == 0 ? 0 : lean > 0 ? 1 : 2;
    }

    long lost(int c, int what) {
        if (!in(c, 0, 10) || !in(what, 0, 1)) {
            return BAD;
        }
        if (now.hasPole()) {
            return NONE;
        }
        List<Integer> free = now.free();
        TreeMapOfLists known = new TreeMapOfLists();
        Ratio least = least(now, free, known);
        Ratio sum = Ratio.ZERO;
        for (int mask = 0; mask < 1 << free.size(); mask++) {
            List<Integer> left = new ArrayList<>();
            Ratio likely = Ratio.of(1);
            for (int k = 0; k < free.size(); k++) {
                boolean stays = (mask >> k & 1) == 1;
                likely = likely.times(Ratio.of(stays ? 10 - c : c).by(Ratio.of(10)));
                if (stays) {
                    left.add(free.get(k));
                }
            }
            if (least(now, left, known).compareTo(least) == 0) {
                sum = sum.plus(likely);
            }
        }
        return sum.told(what);
    }

    // ---- 3 what is done

    long drift(int n) {
        if (!in(n, 1, 40)) {
            return BAD;
        }
        for (int k = 0; k < n; k++) {
            State next = now.same();
            next.draw = (now.draw * 1103515245L + 12345L) % (1L << 31);
            int v = (int) (next.draw / 65536);
            int x = v % 13 - 6;
            int y = v / 16 % 199 - 99;
            if (next.ys.containsKey(x) || next.ys.size() < 8) {
                next.ys.put(x, y);
                next.fixed.putIfAbsent(x, false);
            }
            change(next);
        }
        return now.ys.size();
    }

    long undo() {
        if (past.isEmpty()) {
            return NONE;
        }
        now = past.remove(past.size() - 1);
        return past.size();
    }

    long seed(int v) {
        if (v < 0) {
            return BAD;
        }
        long was = now.draw;
        State next = now.same();
        next.draw = v;
        now = next;
        return was;
    }

    long image() {
        imageNow = now;
        imagePast = new ArrayList<>(past);
        return 1;
    }

    long restore() {
        if (imageNow == null) {
            return NONE;
        }
        now = imageNow;
        past = new ArrayList<>(imagePast);
        return 1;
    }

    // ---- sheets

    long find(int sheet, int lane, long i, long n) {
        return sheets[sheet] == null ? NULL : lanes[sheet] != lane ? CAST
            : i < 0 || i + n > sheets[sheet].length || n < 0 ? INDEX : 0;
    }

    void put(int sheet, int i, long v) {
        int bits = 8 << lanes[sheet];
        sheets[sheet][i] = v << 64 - bits >> 64 - bits;
    }

    long degrees(int sheet, int lane, int i, int n) {
        if (!in(sheet, 0, 3) || !in(lane, 0, 3) || !in(n, 1, 8)) {
            return BAD;
        }
        long found = find(sheet, lane, i, 2L * n);
        if (found != 0) {
            return found;
        }
        TreeMap<Long, Long> pairs = new TreeMap<>();
        for (int k = 0; k < n; k++) {
            long x = sheets[sheet][i + 2 * k];
            long y = sheets[sheet][i + 2 * k + 1];
            if (!in(x, -6, 6) || !in(y, -99, 99) || pairs.put(x, y) != null) {
                return NOT;
            }
        }
        long set = 0;
        for (int d = 0; d <= 3; d++) {
            State s = new State();
            s.d = d;
            for (long x : pairs.keySet()) {
                if (s.ys.size() <= d) {
                    s.ys.put((int) x, (int) (long) pairs.get(x));
                    s.fixed.put((int) x, false);
                }
            }
            boolean all = true;
            if (s.ys.size() == d + 1) {
                Ratio[] p = throughAll(s);
                for (long x : pairs.keySet()) {
                    all &= at(p, (int) x).compareTo(Ratio.of(pairs.get(x))) == 0;
                }
            }
            set |= all ? 1 << d : 0;
        }
        return set;
    }

    long film(int sheet, int lane, int i) {
        if (!in(sheet, 0, 3) || !in(lane, 0, 3)) {
            return BAD;
        }
        long found = find(sheet, lane, i, 2L * now.ys.size());
        if (found != 0) {
            return found;
        }
        int k = i;
        for (int x : now.ys.keySet()) {
            put(sheet, k++, x);
            put(sheet, k++, now.ys.get(x));
        }
        return k - i;
    }

    long sheet(int sheet, int lane, int n) {
        if (!in(sheet, 0, 3) || !in(lane, 0, 3) || n > 24) {
            return BAD;
        }
        if (n < 0) {
            return SIZE;
        }
        sheets[sheet] = new long[n];
        lanes[sheet] = lane;
        return n;
    }

    long drop(int sheet) {
        if (!in(sheet, 0, 3)) {
            return BAD;
        }
        if (sheets[sheet] == null) {
            return NULL;
        }
        int n = sheets[sheet].length;
        sheets[sheet] = null;
        return n;
    }

    long item(int sheet, int lane, int i, long v) {
        if (!in(sheet, 0, 3) || !in(lane, 0, 3)) {
            return BAD;
        }
        long found = find(sheet, lane, i, 1);
        if (found != 0) {
            return found;
        }
        put(sheet, i, v);
        return 1;
    }

    long copy(int from, int i, int to, int j, int n) {
        if (!in(from, 0, 3) || !in(to, 0, 3)) {
            return BAD;
        }
        if (sheets[from] == null || sheets[to] == null) {
            return NULL;
        }
        if (lanes[from] != lanes[to]) {
            return CAST;
        }
        if (find(from, lanes[from], i, n) != 0 || find(to, lanes[to], j, n) != 0) {
            return INDEX;
        }
        long[] taken = sheets[from].clone();
        for (int k = 0; k < n; k++) {
            sheets[to][j + k] = taken[i + k];
        }
        return n;
    }
}
