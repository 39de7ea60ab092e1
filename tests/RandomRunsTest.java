import java.util.Random;

/**
 * Runs of calls by a told seed, each answer held against the Model's. At the end of each run every question
 * is asked. An argument tells how many runs (else 2000).
 */
public final class RandomRunsTest {
    private static final int SHOWN = 20;
    private static final String[] PIECES = {"0;", "1;", "2;", "3;", "1;", ",", "-", "2", "(", ")", "!", ";", " ", "9", "x"};
    private static int wrong = 0;
    private final Random random;
    private final EvenErrors program = new EvenErrors();
    private final Model model = new Model();
    private final StringBuilder log = new StringBuilder();
    private final int run;
    private int calls = 0;

    private RandomRunsTest(int run) {
        this.run = run;
        this.random = new Random(run);
    }

    public static void main(String[] args) {
        int runs = args.length > 0 ? Integer.parseInt(args[0]) : 2000;
        for (int run = 0; run < runs; run++) {
            new RandomRunsTest(run).go();
        }
        System.out.println(wrong == 0 ? runs + " runs by draws: all answers are as due" : wrong + " answers are not as due");
        if (wrong != 0) {
            System.exit(1);
        }
    }

    private void same(String call, long got, long want) {
        calls++;
        log.append(call).append(" -> ").append(got).append('\n');
        // What a call behind the 512th answers is free.
        if (got != want && calls <= 512) {
            wrong++;
            if (wrong <= SHOWN) {
                System.out.println("run " + run + ": " + call + " answered " + got + ", due is " + want);
            }
            if (wrong == 1) {
                System.out.println(log);
            }
        }
    }

    private int some(int least, int most) {
        return least + random.nextInt(most - least + 1);
    }

    /** Mostly within, now and then beyond by one, seldom an extreme. */
    private int near(int least, int most) {
        int kind = random.nextInt(40);
        return kind == 0 ? least - 1 : kind == 1 ? most + 1 : kind == 2 ? Integer.MIN_VALUE
            : kind == 3 ? Integer.MAX_VALUE : some(least, most);
    }

    private int y() {
        int kind = random.nextInt(6);
        return kind == 0 ? some(-2, 2) : kind == 1 ? (random.nextBoolean() ? 99 : -99) : near(-99, 99);
    }

    private void go() {
        int kind = run % 4;
        if (kind == 0) {
            text(fineText());
        }
        while (calls < 90) {
            switch (kind == 1 ? some(12, 19) : kind == 2 ? some(0, 11) : some(0, 16)) {
                case 0: case 1: case 2: case 12: points(); break;
                case 3: changes(); break;
                case 4: text(random.nextInt(3) == 0 ? fineText() : spoilt(fineText())); break;
                case 5: text(random.nextBoolean() ? spoilt(fineText()) : pieces()); break;
                case 6: case 7: case 13: fits(); break;
                case 8: case 14: done(); break;
                case 9: changes(); break;
                case 10: curve(); break;
                case 11: looks(); break;
                default: sheets(); break;
            }
        }
        all();
    }

    private void points() {
        int x = near(-6, 6);
        int y = y();
        same("point(" + x + ", " + y + ")", program.point(x, y), model.point(x, y));
    }

    /** Points that lie on a polynomial, but perhaps for one: errors of 0 and alike ones come up. */
    private void curve() {
        int a = some(-2, 2);
        int b = some(-3, 3);
        int c = some(-9, 9);
        for (int k = some(2, 7); k > 0; k--) {
            int x = some(-6, 6);
            int y = Math.max(-99, Math.min(99, a * x * x + b * x + c + (random.nextInt(3) == 0 ? some(-3, 3) : 0)));
            same("point(" + x + ", " + y + ")", program.point(x, y), model.point(x, y));
        }
        fits();
    }

    private void changes() {
        int x = near(-6, 6);
        switch (random.nextInt(5)) {
            case 0: same("out(" + x + ")", program.out(x), model.out(x)); break;
            case 1: case 2: same("fix(" + x + ")", program.fix(x), model.fix(x)); break;
            case 3: {
                int d = near(0, 3);
                same("degree(" + d + ")", program.degree(d), model.degree(d));
                break;
            }
            default: {
                int j = near(0, 2);
                int v = near(-3, 3);
                same("under(" + j + ", " + v + ")", program.under(j, v), model.under(j, v));
                break;
            }
        }
    }

    private void looks() {
        int x = near(-6, 6);
        int what = near(0, 6);
        same("told(" + x + ", " + what + ")", program.told(x, what), model.told(x, what));
        same("count(" + what + ")", program.count(what), model.count(what));
    }

    private void done() {
        switch (random.nextInt(7)) {
            case 0: {
                int n = random.nextInt(4) == 0 ? near(1, 40) : near(1, 4);
                same("drift(" + n + ")", program.drift(n), model.drift(n));
                break;
            }
            case 1: case 2: case 3: same("undo()", program.undo(), model.undo()); break;
            case 4: {
                int v = near(0, Integer.MAX_VALUE - 1);
                same("seed(" + v + ")", program.seed(v), model.seed(v));
                break;
            }
            case 5: same("image()", program.image(), model.image()); break;
            default: same("restore()", program.restore(), model.restore()); break;
        }
    }

    private String fineText() {
        StringBuilder text = new StringBuilder();
        int d = some(0, 3);
        text.append(d).append(';').append(some(-3, 3));
        for (int k = some(0, 2); k > 0; k--) {
            text.append(',').append(some(-3, 3));
        }
        text.append(';');
        int fixed = 0;
        int used = 0;
        for (int k = some(0, 8); k > 0; k--) {
            int x = some(-6, 6);
            if ((used >> x + 6 & 1) == 1) {
                continue;
            }
            used |= 1 << x + 6;
            text.append('(').append(x).append(',').append(some(-99, 99)).append(')');
            if (fixed < d && random.nextInt(4) == 0) {
                text.append('!');
                fixed++;
            }
        }
        return text.toString();
    }

    private String spoilt(String text) {
        StringBuilder spoilt = new StringBuilder(text);
        for (int k = some(1, 3); k > 0; k--) {
            int at = random.nextInt(spoilt.length() + 1);
            int kind = random.nextInt(4);
            if (kind == 0 && at < spoilt.length()) {
                spoilt.deleteCharAt(at);
            } else if (kind == 1) {
                spoilt.insert(at, "0123456789-,;()! ".charAt(random.nextInt(17)));
            } else {
                spoilt.insert(at, random.nextInt(3) == 0 ? "  " : " ");
            }
        }
        return spoilt.toString();
    }

    private String pieces() {
        StringBuilder text = new StringBuilder();
        for (int k = some(0, 8); k > 0; k--) {
            text.append(PIECES[random.nextInt(PIECES.length)]);
        }
        return text.toString();
    }

    private void text(String text) {
        for (int k = 0; k < text.length(); k++) {
            int letter = text.charAt(k);
            same("type(" + letter + ")", program.type(letter), model.type(letter));
        }
        if (random.nextInt(20) == 0) {
            int letter = near(32, 126);
            same("type(" + letter + ")", program.type(letter), model.type(letter));
        }
        same("read()", program.read(), model.read());
    }

    private void fits() {
        int what = near(0, 7);
        int small = near(0, 2);
        int x = near(-6, 6);
        int j = near(0, 3);
        int k = near(0, 4);
        int c = near(0, 10);
        int set = random.nextBoolean() ? near(0, 8191) : (int) model.count(1) & some(0, 8191);
        same("best(" + what + ")", program.best(what), model.best(what));
        same("part(" + j + ", " + small + ")", program.part(j, small), model.part(j, small));
        same("value(" + x + ", " + small + ")", program.value(x, small), model.value(x, small));
        same("error(" + x + ", " + small + ")", program.error(x, small), model.error(x, small));
        same("step(" + j + ", " + k + ")", program.step(j, k), model.step(j, k));
        same("level(" + set + ", " + small + ")", program.level(set, small), model.level(set, small));
        if (random.nextInt(4) == 0) {
            same("lost(" + c + ", " + small + ")", program.lost(c, small), model.lost(c, small));
        }
    }

    private void sheets() {
        int sheet = random.nextInt(10) == 0 ? near(0, 3) : some(0, 1);
        int lane = random.nextInt(4) == 0 ? near(0, 3) : model.lanes[Math.max(0, Math.min(3, sheet))];
        int i = random.nextInt(3) == 0 ? near(0, 24) : some(0, 4);
        int n = near(1, 8);
        switch (random.nextInt(9)) {
            case 0: {
                int items = near(0, 24);
                same("sheet(" + sheet + ", " + lane + ", " + items + ")", program.sheet(sheet, lane, items), model.sheet(sheet, lane, items));
                break;
            }
            case 1:
                if (random.nextInt(3) == 0) {
                    same("drop(" + sheet + ")", program.drop(sheet), model.drop(sheet));
                }
                break;
            case 2: case 3: case 4: {
                long v = random.nextInt(8) == 0 ? random.nextLong() : some(-6, 6);
                same("item(" + sheet + ", " + lane + ", " + i + ", " + v + ")", program.item(sheet, lane, i, v), model.item(sheet, lane, i, v));
                break;
            }
            case 5: {
                int to = random.nextInt(3) == 0 ? near(0, 3) : sheet;
                int j = random.nextInt(3) == 0 ? near(0, 24) : some(0, 4);
                int many = random.nextInt(3) == 0 ? near(0, 24) : some(0, 6);
                same("copy(" + sheet + ", " + i + ", " + to + ", " + j + ", " + many + ")",
                    program.copy(sheet, i, to, j, many), model.copy(sheet, i, to, j, many));
                break;
            }
            case 6: same("film(" + sheet + ", " + lane + ", " + i + ")", program.film(sheet, lane, i), model.film(sheet, lane, i)); break;
            case 7: onCurve(); break;
            default: same("degrees(" + sheet + ", " + lane + ", " + i + ", " + n + ")",
                program.degrees(sheet, lane, i, n), model.degrees(sheet, lane, i, n)); break;
        }
    }

    private void onCurve() {
        int lane = some(0, 3);
        int n = some(1, 8);
        same("sheet(2, " + lane + ", 24)", program.sheet(2, lane, 24), model.sheet(2, lane, 24));
        int top = some(0, 4);
        int first = some(-6, 6 - n + 1);
        int i = some(0, 8);
        for (int k = 0; k < n; k++) {
            long x = first + k;
            long y = 3 + (top > 0 ? 2 * x : 0) + (top > 1 ? x * x : 0) + (top > 2 ? -x * x * x / 3 * 3 / 4 : 0);
            if (top == 4) {
                y += some(0, 1);
            }
            same("item(2, " + lane + ", " + (i + 2 * k) + ", " + x + ")", program.item(2, lane, i + 2 * k, x), model.item(2, lane, i + 2 * k, x));
            same("item(2, " + lane + ", " + (i + 2 * k + 1) + ", " + y + ")", program.item(2, lane, i + 2 * k + 1, y), model.item(2, lane, i + 2 * k + 1, y));
        }
        same("degrees(2, " + lane + ", " + i + ", " + n + ")", program.degrees(2, lane, i, n), model.degrees(2, lane, i, n));
    }

    private void all() {
        for (int what = -1; what <= 8; what++) {
            same("count(" + what + ")", program.count(what), model.count(what));
            same("best(" + what + ")", program.best(what), model.best(what));
        }
        for (int x = -6; x <= 6; x++) {
            for (int what = 0; what <= 3; what++) {
                same("told(" + x + ", " + what + ")", program.told(x, what), model.told(x, what));
                same("value(" + x + ", " + what + ")", program.value(x, what), model.value(x, what));
                same("error(" + x + ", " + what + ")", program.error(x, what), model.error(x, what));
                same("part(" + (x + 6) + ", " + what + ")", program.part(x + 6, what), model.part(x + 6, what));
            }
        }
        for (int k = 0; k <= 6; k++) {
            for (int what = 0; what <= 5; what++) {
                same("step(" + k + ", " + what + ")", program.step(k, what), model.step(k, what));
            }
        }
        for (int c = 0; c <= 10; c += 5) {
            same("lost(" + c + ", 0)", program.lost(c, 0), model.lost(c, 0));
            same("lost(" + c + ", 1)", program.lost(c, 1), model.lost(c, 1));
        }
        // What SHEETS hold is seen through degrees alone, each pair of items by itself.
        for (int sheet = 0; sheet < 4; sheet++) {
            for (int i = 0; i < 24; i++) {
                int lane = model.lanes[sheet];
                same("degrees(" + sheet + ", " + lane + ", " + i + ", 1)",
                    program.degrees(sheet, lane, i, 1), model.degrees(sheet, lane, i, 1));
            }
        }
        for (int k = 0; k < 7; k++) {
            same("undo()", program.undo(), model.undo());
            same("count(1)", program.count(1), model.count(1));
            same("count(2)", program.count(2), model.count(2));
            same("best(0)", program.best(0), model.best(0));
        }
    }
}
