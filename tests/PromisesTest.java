/** Each promise by its number: ordinary calls, the edges that the document names, wrong calls. */
public final class PromisesTest {
    private static final long BAD = -1, NOT = -2, FULL = -3, NONE = -4, NULL = -11, CAST = -12, INDEX = -13, SIZE = -14;
    private static final int LEAST_INT = Integer.MIN_VALUE;
    private static final int MOST_INT = Integer.MAX_VALUE;
    private static int wrong = 0;
    private static int asked = 0;

    private static void due(int promise, String call, long got, long want) {
        asked++;
        if (got != want) {
            wrong++;
            System.out.println("promise " + promise + ": " + call + " answered " + got + ", due is " + want);
        }
    }

    /** All letters typed, then read. */
    private static long text(EvenErrors x, String letters) {
        for (int k = 0; k < letters.length(); k++) {
            x.type(letters.charAt(k));
        }
        return x.read();
    }

    private static EvenErrors of(String letters) {
        EvenErrors x = new EvenErrors();
        if (text(x, letters) < 0) {
            wrong++;
            System.out.println("no TEXT: " + letters);
        }
        return x;
    }

    private static int bit(int x) {
        return 1 << x + 6;
    }

    private static int bits(int... xs) {
        int set = 0;
        for (int x : xs) {
            set |= bit(x);
        }
        return set;
    }

    public static void main(String[] args) {
        aNewObject();
        point();
        out();
        fix();
        degree();
        under();
        told();
        count();
        type();
        read();
        readFaults();
        best();
        bestWithFixed();
        bestOfFew();
        part();
        value();
        error();
        step();
        stepAtTheEnds();
        level();
        lost();
        drift();
        undo();
        seed();
        image();
        restore();
        degrees();
        film();
        sheet();
        drop();
        item();
        copy();
        System.out.println(wrong == 0 ? asked + " answers are as due" : wrong + " answers are not as due");
        if (wrong != 0) {
            System.exit(1);
        }
    }

    private static void aNewObject() {
        EvenErrors x = new EvenErrors();
        due(1, "count(0)", x.count(0), 1);
        due(1, "count(1)", x.count(1), 0);
        due(1, "count(2)", x.count(2), 0);
        due(1, "count(6)", x.count(6), 0);
        due(1, "under(0, 1)", x.under(0, 1), NOT);
        due(1, "under(1, 0)", x.under(1, 0), NOT);
        due(1, "under(2, 0)", x.under(2, 0), NOT);
        due(1, "seed(1)", x.seed(1), 1);
        due(1, "type(' ')", x.type(' '), 1);
        due(1, "restore()", x.restore(), NONE);
        for (int k = 0; k < 4; k++) {
            due(1, "drop(" + k + ")", x.drop(k), NULL);
        }
        EvenErrors other = new EvenErrors();
        other.point(1, 1);
        due(1, "count(1) of one of two", x.count(1), 0);
    }

    private static void point() {
        EvenErrors x = new EvenErrors();
        due(2, "point(-6, -99)", x.point(-6, -99), 1);
        due(2, "point(6, 99)", x.point(6, 99), 2);
        due(2, "point(6, 98)", x.point(6, 98), 2);
        due(2, "told(6, 0)", x.told(6, 0), 197);
        due(2, "point(6, 98)", x.point(6, 98), NOT);
        due(2, "point(7, 0)", x.point(7, 0), BAD);
        due(2, "point(-7, 0)", x.point(-7, 0), BAD);
        due(2, "point(0, 100)", x.point(0, 100), BAD);
        due(2, "point(0, -100)", x.point(0, -100), BAD);
        due(2, "point(least)", x.point(LEAST_INT, MOST_INT), BAD);
        x.fix(6);
        due(2, "point(6, 1), FIXED", x.point(6, 1), 2);
        due(2, "told(6, 1)", x.told(6, 1), 1);
        for (int k = 0; k < 6; k++) {
            due(2, "point(k, 0)", x.point(k, 0), 3 + k);
        }
        due(2, "point(-1, 0), a 9th", x.point(-1, 0), FULL);
        due(2, "point(5, 0) of 8", x.point(5, 0), NOT);
        due(2, "point(5, 7) of 8", x.point(5, 7), 8);
        due(2, "count(6)", x.count(6), 6);
        due(2, "undo()", x.undo(), 5);
        due(2, "told(5, 0)", x.told(5, 0), 99);
    }

    private static void out() {
        EvenErrors x = of("1;1;(0,5)!(1,2)");
        due(3, "out(7)", x.out(7), BAD);
        due(3, "out(-7)", x.out(-7), BAD);
        due(3, "out(2)", x.out(2), NONE);
        due(3, "out(0)", x.out(0), 1);
        due(3, "count(2)", x.count(2), 0);
        due(3, "count(1)", x.count(1), bit(1));
        due(3, "out(0)", x.out(0), NONE);
        due(3, "point(0, 5)", x.point(0, 5), 2);
        due(3, "told(0, 1), new", x.told(0, 1), 0);
        due(3, "out(0)", x.out(0), 1);
        due(3, "out(1)", x.out(1), 0);
    }

    private static void fix() {
        EvenErrors x = of("1;1;(0,5)(1,2)");
        due(4, "fix(7)", x.fix(7), BAD);
        due(4, "fix(least)", x.fix(LEAST_INT), BAD);
        due(4, "fix(3)", x.fix(3), NONE);
        due(4, "fix(0)", x.fix(0), 1);
        due(4, "fix(1)", x.fix(1), NOT);
        due(4, "fix(3), d are FIXED", x.fix(3), NONE);
        due(4, "fix(0)", x.fix(0), 0);
        due(4, "fix(1)", x.fix(1), 1);
        due(4, "count(2)", x.count(2), bit(1));
        EvenErrors none = of("0;1;(0,5)");
        due(4, "fix(0), d 0", none.fix(0), NOT);
    }

    private static void degree() {
        EvenErrors x = new EvenErrors();
        due(5, "degree(-1)", x.degree(-1), BAD);
        due(5, "degree(4)", x.degree(4), BAD);
        due(5, "degree(1)", x.degree(1), NOT);
        due(5, "degree(3)", x.degree(3), 1);
        due(5, "degree(0)", x.degree(0), 3);
        due(5, "degree(2)", x.degree(2), 0);
        x.point(0, 0);
        x.point(1, 0);
        x.fix(0);
        x.fix(1);
        due(5, "degree(1), 2 FIXED", x.degree(1), NOT);
        due(5, "count(0)", x.count(0), 2);
        due(5, "degree(3)", x.degree(3), 2);
        due(5, "degree(2)", x.degree(2), 3);
    }

    private static void under() {
        EvenErrors x = new EvenErrors();
        due(6, "under(-1, 0)", x.under(-1, 0), BAD);
        due(6, "under(3, 0)", x.under(3, 0), BAD);
        due(6, "under(0, 4)", x.under(0, 4), BAD);
        due(6, "under(0, -4)", x.under(0, -4), BAD);
        due(6, "under(0, 1)", x.under(0, 1), NOT);
        due(6, "under(0, -3)", x.under(0, -3), 4);
        due(6, "under(0, 3)", x.under(0, 3), 0);
        due(6, "under(1, -1)", x.under(1, -1), 3);
        due(6, "under(2, 2)", x.under(2, 2), 3);
        due(6, "under(2, 1)", x.under(2, 1), 5);
        x.point(2, 0);
        due(6, "told(2, 3): 3 - 2 + 4", x.told(2, 3), 5);
    }

    private static void told() {
        EvenErrors x = of("2;-3,1,0;(5,-99)(-6,99)!(0,0)");
        due(7, "told(7, 0)", x.told(7, 0), BAD);
        due(7, "told(0, -1)", x.told(0, -1), BAD);
        due(7, "told(0, 4)", x.told(0, 4), BAD);
        due(7, "told(1, 4)", x.told(1, 4), BAD);
        due(7, "told(1, 0)", x.told(1, 0), NONE);
        due(7, "told(5, 0)", x.told(5, 0), 0);
        due(7, "told(-6, 0)", x.told(-6, 0), 198);
        due(7, "told(-6, 1)", x.told(-6, 1), 1);
        due(7, "told(5, 1)", x.told(5, 1), 0);
        due(7, "told(-6, 2)", x.told(-6, 2), 0);
        due(7, "told(0, 2)", x.told(0, 2), 1);
        due(7, "told(5, 2)", x.told(5, 2), 2);
        due(7, "told(-6, 3): -9", x.told(-6, 3), 9);
        due(7, "told(5, 3): 2", x.told(5, 3), 2);
    }

    private static void count() {
        EvenErrors x = of("2;-1,0,1;(-6,1)!(0,0)(6,2)");
        due(8, "count(-1)", x.count(-1), BAD);
        due(8, "count(7)", x.count(7), BAD);
        due(8, "count(0)", x.count(0), 2);
        due(8, "count(1)", x.count(1), bits(-6, 0, 6));
        due(8, "count(2)", x.count(2), bit(-6));
        due(8, "count(3)", x.count(3), 0);
        due(8, "count(4)", x.count(4), 3);
        due(8, "count(5), 3 of 4", x.count(5), 2);
        due(8, "count(6)", x.count(6), 1);
        x.point(1, 5);
        due(8, "count(3): x x less 1", x.count(3), bit(1));
        due(8, "count(5): a POLE", x.count(5), 1);
        x.point(-1, 5);
        due(8, "count(3)", x.count(3), bits(-1, 1));
        x.out(1);
        x.out(0);
        due(8, "count(5): a POLE, too few", x.count(5), 1);
        x.out(-1);
        x.point(2, 2);
        x.point(3, 2);
        due(8, "count(5)", x.count(5), 0);
        due(8, "count(6)", x.count(6), 6);
    }

    private static void type() {
        EvenErrors x = new EvenErrors();
        due(9, "type(31)", x.type(31), BAD);
        due(9, "type(127)", x.type(127), BAD);
        due(9, "type(-1)", x.type(-1), BAD);
        due(9, "type(32)", x.type(32), 1);
        due(9, "type(126)", x.type(126), 2);
        for (int k = 3; k <= 90; k++) {
            due(9, "type('1')", x.type('1'), k);
        }
        due(9, "type, a 91st", x.type('1'), FULL);
        due(9, "type(127) of 90", x.type(127), BAD);
        due(9, "read()", x.read(), -21);
        due(9, "type(49) behind it", x.type(49), 1);
        EvenErrors blanks = new EvenErrors();
        for (int k = 1; k <= 90; k++) {
            blanks.type(' ');
        }
        due(9, "read() of 90 blanks", blanks.read(), -110);
    }

    private static void read() {
        EvenErrors x = new EvenErrors();
        due(10, "0;1;", text(x, "0;1;"), 0);
        due(10, "count(0)", x.count(0), 0);
        due(10, "count(6)", x.count(6), 1);
        due(10, "read(), empty", x.read(), -20);
        x.under(1, 2);
        x.under(2, 3);
        x.seed(77);
        due(10, "blanks", text(x, " 3 ; - 02 , 1 ; ( -6 , - 99 ) ! ( 0 , 7 )! (06,00)  "), 3);
        due(10, "count(0)", x.count(0), 3);
        due(10, "under(0, -2)", x.under(0, -2), NOT);
        due(10, "under(1, 1)", x.under(1, 1), NOT);
        due(10, "under(2, 0), not told", x.under(2, 0), NOT);
        due(10, "count(1)", x.count(1), bits(-6, 0, 6));
        due(10, "count(2)", x.count(2), bits(-6, 0));
        due(10, "told(-6, 0)", x.told(-6, 0), 0);
        due(10, "THE DRAW stays", x.seed(1), 77);
        due(10, "again, alike", text(x, "3;-2,1;(-6,-99)!(0,7)!(6,0)"), 3);
        due(10, "count(6)", x.count(6), 5);
        due(10, "eight", text(x, "3;3,-3,3;(-6,1)(-5,1)(-4,1)(-3,1)(-2,1)(-1,1)(0,1)(1,-0)"), 8);
        due(10, "told(1, 0)", x.told(1, 0), 99);
    }

    private static void readFaults() {
        String[] texts = {
            "", "4;1;", "-1;1;", "x", "  ", "1", "1 1;", "12;1;", "1:1;", "1;", "1;;", "1;,1;", "1;-;", "1;--1;", "1;4;",
            "1;-4;", "1; - 4;", "1;10;", "1;103;", "1;003;", "1;1", "1;1,", "1;1,;", "1;1,2,3,", "1;1 1;", "1;1,1,1(",
            "1;1;x", "1;1;!", "1;1;)", "1;1;(", "1;1;()", "1;1;(7,1)", "1;1;(-7,1)", "1;1;( - 7,1)", "1;1;(60,1)",
            "1;1;(006,1)", "1;1;(1", "1;1;(1)", "1;1;(1,", "1;1;(1,)", "1;1;(1,-)", "1;1;(1,100)", "1;1;(1,1 1)",
            "1;1;(1,1", "1;1;(1,1,1)", "1;1;(1,1)!!", "1;1;(1,1)!(2,1)!", "0;1;(1,1)!", "0;1;(1,1) !", "1;1;(1,1)(01,2)",
            "1;1;(0,1)(-0,2)", "1;1;(1,1)(1", "1;1;(1,1)(1x", "1;1;(1,1) x", "1;1;(1,1);",
            "1;1;(-6,1)(-5,1)(-4,1)(-3,1)(-2,1)(-1,1)(0,1)(1,0)(2,0)",
            "1;1;(-6,1)(-5,1)(-4,1)(-3,1)(-2,1)(-1,1)(0,1)(1,0)x",
            "1;1;(1,1)(2,2", "1;1;(1,1)(2,2  "
        };
        int[] places = {
            0, 0, 0, 0, 2, 1, 2, 1, 1, 2, 2, 2, 3, 3, 2,
            2, 3, 2, 2, 4, 3, 4, 4, 7, 4, 7,
            4, 4, 4, 5, 5, 5, 5, 6, 5,
            7, 6, 6, 7, 7, 8, 9, 9,
            8, 8, 10, 15, 9, 10, 10,
            10, 10, 10, 10, 9,
            50,
            50,
            13, 15
        };
        for (int k = 0; k < texts.length; k++) {
            EvenErrors x = of("2;1,1,1;(3,4)!(2,5)");
            due(10, "'" + texts[k] + "'", text(x, texts[k]), -20 - places[k]);
            due(10, "count(0) behind a FAULT", x.count(0), 2);
            due(10, "count(1) behind a FAULT", x.count(1), bits(2, 3));
            due(10, "count(6) behind a FAULT", x.count(6), 1);
            due(10, "type behind a FAULT", x.type('1'), 1);
        }
    }

    private static void best() {
        // THE BEST FIT is 3 x less 3: ERRORS 3, 3, -3, 3.
        EvenErrors x = of("1;1;(0,0)(1,3)(2,0)(3,9)");
        due(11, "best(-1)", x.best(-1), BAD);
        due(11, "best(8)", x.best(8), BAD);
        due(11, "best(0)", x.best(0), 3);
        due(11, "best(1)", x.best(1), 1);
        due(11, "best(2)", x.best(2), bits(0, 1, 2, 3));
        due(11, "best(3)", x.best(3), bits(0, 1, 3));
        due(11, "best(4)", x.best(4), 3);
        due(11, "best(5)", x.best(5), 1);
        due(11, "best(6)", x.best(6), 2);
        due(11, "best(7)", x.best(7), bits(1, 2, 3));
        EvenErrors flat = of("0;1;(-2,1)(-1,5)(0,5)(1,1)(2,5)(3,3)");
        due(11, "best(0), all by 3", flat.best(0), 2);
        due(11, "best(2)", flat.best(2), bits(-2, -1, 0, 1, 2));
        due(11, "best(3)", flat.best(3), bits(-1, 0, 2));
        due(11, "best(4): down, up, up, down, up", flat.best(4), 4);
        due(11, "best(7)", flat.best(7), bits(-2, -1));
        EvenErrors half = of("0;1;(0,0)(1,5)");
        due(11, "best(0)", half.best(0), 5);
        due(11, "best(1)", half.best(1), 2);
        half.under(0, -1);
        due(11, "best(0) over -1", half.best(0), 5);
        due(11, "best(4) over -1", half.best(4), 2);
        half.under(1, 1);
        due(11, "best(0): a POLE", half.best(0), NONE);
        due(11, "best(7): a POLE", half.best(7), NONE);
        due(11, "best(8): a POLE", half.best(8), BAD);
        half.point(1, 4);
        half.out(1);
        due(11, "best(6): none", half.best(6), 0);
        EvenErrors turned = of("0;0,1;(-2,1)(3,1)");
        // P of x is c, c by -2 and by 3: 1 and c by 2, 1 less c by 3, alike: c is -12 or 0; level by turns of LEAN: 0.
        due(11, "best(0) over x", turned.best(0), 1);
        due(11, "best(1) over x", turned.best(1), 1);
        due(11, "best(3) over x", turned.best(3), bits(-2, 3));
        due(11, "best(4) over x", turned.best(4), 2);
    }

    private static void bestWithFixed() {
        // Lines through 0, 0: of 1, 1 and 2, 4 by slopes; s less 1 is 4 less 2 s: s is 5 by 3.
        EvenErrors x = of("1;1;(0,0)!(1,1)(2,4)");
        due(11, "best(0)", x.best(0), 2);
        due(11, "best(1)", x.best(1), 3);
        due(11, "best(2)", x.best(2), bits(1, 2));
        due(11, "best(3)", x.best(3), bit(2));
        due(11, "best(7)", x.best(7), bits(1, 2));
        due(12, "part(1, 0)", x.part(1, 0), 5);
        due(12, "part(1, 1)", x.part(1, 1), 3);
        // On both sides of 0 the LEAN turns, so that both ERRORS are alike.
        EvenErrors sides = of("1;1;(-1,3)(0,0)!(1,1)");
        due(11, "best(0), both sides", sides.best(0), 2);
        due(11, "best(1), both sides", sides.best(1), 1);
        due(11, "best(3), both sides", sides.best(3), bits(-1, 1));
        due(11, "best(4), both sides", sides.best(4), 2);
        due(16, "level: down at first", sides.level(bits(-1, 1), 2), 2);
    }

    private static void bestOfFew() {
        EvenErrors x = new EvenErrors();
        for (int what = 0; what <= 7; what++) {
            due(11, "best(" + what + ") of none", x.best(what), what == 1 ? 1 : 0);
        }
        x.point(4, 9);
        due(11, "best(5) of 1", x.best(5), 0);
        x.point(5, 7);
        due(11, "best(5) of 2", x.best(5), 1);
        due(11, "best(0) of 2", x.best(0), 0);
        due(11, "best(2) of 2", x.best(2), 0);
        due(11, "best(6) of 2", x.best(6), 0);
        x.point(6, 5);
        due(11, "best(0) of 3 in line", x.best(0), 0);
        due(11, "best(1) of 3 in line", x.best(1), 1);
        due(11, "best(2) of 3 in line", x.best(2), bits(4, 5, 6));
        due(11, "best(3) of 3 in line", x.best(3), 0);
        due(11, "best(4) of 3 in line", x.best(4), 0);
        due(11, "best(5) of 3 in line", x.best(5), 1);
        due(11, "best(6) of 3 in line", x.best(6), 1);
        due(11, "best(7) of 3 in line", x.best(7), bits(4, 5, 6));
    }

    private static void part() {
        EvenErrors x = of("1;1;(0,0)(1,3)(2,0)");
        due(12, "part(-1, 0)", x.part(-1, 0), BAD);
        due(12, "part(4, 0)", x.part(4, 0), BAD);
        due(12, "part(0, -1)", x.part(0, -1), BAD);
        due(12, "part(0, 3)", x.part(0, 3), BAD);
        due(12, "part(0, 0)", x.part(0, 0), 3);
        due(12, "part(0, 1)", x.part(0, 1), 2);
        due(12, "part(0, 2)", x.part(0, 2), 1);
        due(12, "part(1, 0)", x.part(1, 0), 0);
        due(12, "part(1, 1)", x.part(1, 1), 1);
        due(12, "part(1, 2)", x.part(1, 2), 0);
        due(12, "part(3, 1)", x.part(3, 1), 1);
        x.out(1);
        x.out(2);
        due(12, "part(0, 0) of 1 POINT", x.part(0, 0), NONE);
        due(12, "part(4, 0) of 1 POINT", x.part(4, 0), BAD);
        x.point(1, -2);
        due(12, "part(1, 0) of 2 POINTS", x.part(1, 0), 2);
        due(12, "part(1, 2) of 2 POINTS", x.part(1, 2), 2);
        x.under(0, 0);
        due(12, "part(0, 0): a POLE", x.part(0, 0), NONE);
        EvenErrors cubic = of("3;1;(-1,-1)(0,0)(1,1)(2,8)");
        due(12, "part(3, 0) of a cubic", cubic.part(3, 0), 1);
        due(12, "part(2, 0) of a cubic", cubic.part(2, 0), 0);
        due(12, "part(1, 0) of a cubic", cubic.part(1, 0), 0);
        cubic.under(0, -2);
        due(12, "part(3, 0) over -2", cubic.part(3, 0), 2);
        due(12, "part(3, 2) over -2", cubic.part(3, 2), 2);
    }

    private static void value() {
        EvenErrors x = of("1;0,2;(1,3)(2,1)");
        // P is 2 x y: 6 at 1, 4 at 2: 8 less 2 x.
        due(13, "value(7, 0)", x.value(7, 0), BAD);
        due(13, "value(0, 3)", x.value(0, 3), BAD);
        due(13, "value(0, 0): Q is 0", x.value(0, 0), NONE);
        due(13, "value(4, 0)", x.value(4, 0), 0);
        due(13, "value(4, 1)", x.value(4, 1), 1);
        due(13, "value(4, 2)", x.value(4, 2), 0);
        due(13, "value(6, 0): -4 by 12", x.value(6, 0), 1);
        due(13, "value(6, 1)", x.value(6, 1), 3);
        due(13, "value(6, 2)", x.value(6, 2), 2);
        due(13, "value(-6, 0): 20 by -12", x.value(-6, 0), 5);
        due(13, "value(-6, 1)", x.value(-6, 1), 3);
        due(13, "value(-6, 2)", x.value(-6, 2), 2);
        x.out(2);
        due(13, "value(1, 0) of 1 POINT", x.value(1, 0), NONE);
        due(13, "value(7, 0) of 1 POINT", x.value(7, 0), BAD);
        x.point(0, 1);
        due(13, "value(1, 0): a POLE", x.value(1, 0), NONE);
    }

    private static void error() {
        EvenErrors x = of("1;-1;(0,0)(1,3)(2,0)(4,4)!");
        due(14, "error(7, 0)", x.error(7, 0), BAD);
        due(14, "error(0, -1)", x.error(0, -1), BAD);
        due(14, "error(3, 0): none there", x.error(3, 0), NONE);
        due(14, "error(4, 0): FIXED", x.error(4, 0), 0);
        due(14, "error(4, 1): FIXED", x.error(4, 1), 1);
        due(14, "error(4, 2): FIXED", x.error(4, 2), 0);
        // Lines through 4, 4 with slope s: ERRORS 4 s less 4, 3 s less 1, 2 s less 4: s is 1.
        due(14, "error(0, 0)", x.error(0, 0), 0);
        due(14, "error(0, 2)", x.error(0, 2), 0);
        due(14, "error(1, 0)", x.error(1, 0), 2);
        due(14, "error(1, 1)", x.error(1, 1), 1);
        due(14, "error(1, 2)", x.error(1, 2), 1);
        due(14, "error(2, 0)", x.error(2, 0), 2);
        due(14, "error(2, 2)", x.error(2, 2), 2);
        x.out(0);
        x.out(1);
        due(14, "error(2, 0), through both", x.error(2, 0), 0);
        x.out(2);
        due(14, "error(4, 0) of 1", x.error(4, 0), NONE);
    }

    private static void step() {
        EvenErrors x = of("1;1;(0,0)(1,3)(2,0)(3,9)");
        due(15, "step(-1, 0)", x.step(-1, 0), BAD);
        due(15, "step(0, -1)", x.step(0, -1), BAD);
        due(15, "step(0, 5)", x.step(0, 5), BAD);
        due(15, "step(9, 5)", x.step(9, 5), BAD);
        due(15, "step(0, 0)", x.step(0, 0), bits(0, 1, 2));
        due(15, "step(0, 1)", x.step(0, 1), 3);
        due(15, "step(0, 2)", x.step(0, 2), 2);
        due(15, "step(0, 3)", x.step(0, 3), 9);
        due(15, "step(0, 4)", x.step(0, 4), 6);
        due(15, "step(1, 0)", x.step(1, 0), bits(1, 2, 3));
        due(15, "step(1, 3)", x.step(1, 3), NONE);
        due(15, "step(1, 4)", x.step(1, 4), NONE);
        due(15, "step(2, 0)", x.step(2, 0), NONE);
        due(15, "step(most, 0)", x.step(MOST_INT, 0), NONE);
        x.out(3);
        x.out(2);
        due(15, "step(0, 0) of 2", x.step(0, 0), NONE);
        x.under(0, 0);
        x.point(2, 2);
        due(15, "step(0, 0): a POLE", x.step(0, 0), NONE);
    }

    private static void stepAtTheEnds() {
        // h is 0 at first: the LEANS count as up, down, up; 4 comes in up, so 2, next to it, goes.
        EvenErrors x = of("1;1;(0,0)(1,1)(2,2)(4,9)");
        due(15, "step(0, 1)", x.step(0, 1), 0);
        due(15, "step(0, 2)", x.step(0, 2), 1);
        due(15, "step(0, 3)", x.step(0, 3), 10);
        due(15, "step(0, 4)", x.step(0, 4), 8);
        // Now 4 comes in down: not as 2: it stands behind all, and 0 goes.
        EvenErrors down = of("1;1;(0,0)(1,1)(2,2)(4,-9)");
        due(15, "step(0, 4), down", down.step(0, 4), 6);
        due(15, "step(1, 0), down", down.step(1, 0), bits(1, 2, 4));
        // Of like ERRORS (4 and 5 are wrong by 3) the least x comes in.
        EvenErrors like = of("1;1;(0,0)(1,1)(2,2)(4,7)(5,2)");
        due(15, "step(0, 3), like ones", like.step(0, 3), 10);
        // A POINT between two of THE REFERENCE takes the place of that with its LEAN.
        EvenErrors within = of("0;1;(-3,0)(-2,4)(0,-9)");
        due(15, "step(0, 0)", within.step(0, 0), bits(-3, -2));
        due(15, "step(0, 3)", within.step(0, 3), 6);
        due(15, "step(0, 4): -3, the other end", within.step(0, 4), 3);
        due(15, "step(1, 0)", within.step(1, 0), bits(-2, 0));
    }

    private static void level() {
        EvenErrors x = of("1;1;(0,0)(1,3)(2,0)(3,9)(4,1)!");
        due(16, "level(-1, 0)", x.level(-1, 0), BAD);
        due(16, "level(8192, 0)", x.level(8192, 0), BAD);
        due(16, "level(0, 3)", x.level(0, 3), BAD);
        due(16, "level(0, -1)", x.level(0, -1), BAD);
        due(16, "level(0, 0)", x.level(0, 0), NOT);
        due(16, "level of 1", x.level(bit(0), 0), NOT);
        due(16, "level of 3", x.level(bits(0, 1, 2), 0), NOT);
        due(16, "level with a FIXED one", x.level(bits(0, 4), 0), NOT);
        due(16, "level with none there", x.level(bits(0, 5), 0), NOT);
        // Through 4, 1 with slope s: ERRORS at 0 and 1 are -1 + 4 s and 2 + 3 s; h, -h: s is -1 by 7.
        due(16, "level, above", x.level(bits(0, 1), 0), 11);
        due(16, "level, below", x.level(bits(0, 1), 1), 7);
        // LEANS: the sign of x less 4 turns both: -11 by 7 at 0 leans up.
        due(16, "level, LEAN", x.level(bits(0, 1), 2), 1);
        EvenErrors line = of("1;1;(0,0)(1,1)(2,2)");
        due(16, "level of a line, above", line.level(bits(0, 1, 2), 0), 0);
        due(16, "level of a line, below", line.level(bits(0, 1, 2), 1), 1);
        due(16, "level of a line, LEAN", line.level(bits(0, 1, 2), 2), 0);
        line.under(0, 0);
        due(16, "level: a POLE", line.level(bits(0, 1, 2), 0), NONE);
        due(16, "level: a POLE, no REFERENCE", line.level(0, 0), NONE);
        due(16, "level: a POLE, BAD", line.level(0, 3), BAD);
    }

    private static void lost() {
        EvenErrors x = of("1;1;(0,0)(1,3)(2,0)(3,9)");
        due(17, "lost(-1, 0)", x.lost(-1, 0), BAD);
        due(17, "lost(11, 0)", x.lost(11, 0), BAD);
        due(17, "lost(0, 2)", x.lost(0, 2), BAD);
        due(17, "lost(0, -1)", x.lost(0, -1), BAD);
        due(17, "lost(0, 0)", x.lost(0, 0), 1);
        due(17, "lost(0, 1)", x.lost(0, 1), 1);
        due(17, "lost(10, 0)", x.lost(10, 0), 0);
        due(17, "lost(10, 1)", x.lost(10, 1), 1);
        // h is 3 on 1 2 3 and on 0 1 2 it is 3 by 2, on 0 1 3 0, on 0 2 3 3: 2 3 and one of 0 1.
        due(17, "lost(5, 0)", x.lost(5, 0), 3);
        due(17, "lost(5, 1)", x.lost(5, 1), 16);
        due(17, "lost(1, 0): 81 99 of 10000", x.lost(1, 0), 8019);
        due(17, "lost(1, 1)", x.lost(1, 1), 10000);
        x.fix(2);
        // Through 2, 0 with slope s: ERRORS 2 s, 3 and s, 9 less s: h is 2 on 0 1, 6 on 0 3 and on 1 3.
        due(17, "lost(5, 0), one FIXED", x.lost(5, 0), 3);
        due(17, "lost(5, 1), one FIXED", x.lost(5, 1), 8);
        EvenErrors line = of("1;1;(0,0)(1,1)(2,2)");
        due(17, "lost(10, 0), THE LEAST is 0", line.lost(10, 0), 1);
        due(17, "lost(10, 1), THE LEAST is 0", line.lost(10, 1), 1);
        line.under(0, 0);
        due(17, "lost(0, 0): a POLE", line.lost(0, 0), NONE);
        EvenErrors eight = of("0;1;(-6,0)(-5,1)(-4,1)(-3,1)(-2,1)(-1,1)(0,1)(1,1)");
        // -6 and one of seven.
        due(17, "lost(9, 0) of 8", eight.lost(9, 0), 5217031);
        due(17, "lost(9, 1) of 8", eight.lost(9, 1), 100000000);
    }

    private static void drift() {
        EvenErrors x = new EvenErrors();
        due(18, "drift(0)", x.drift(0), BAD);
        due(18, "drift(-1)", x.drift(-1), BAD);
        due(18, "drift(41)", x.drift(41), BAD);
        // 1103527590 by 65536 is 16838: 3 over by 13; by 16 1052: 57 over by 199.
        due(18, "drift(1)", x.drift(1), 1);
        due(18, "count(1)", x.count(1), bit(-3));
        due(18, "told(-3, 0)", x.told(-3, 0), 57);
        due(18, "seed(1)", x.seed(1), 1103527590);
        x.fix(-3);
        x.point(-3, 5);
        due(18, "drift(1) by 1 again", x.drift(1), 1);
        due(18, "told(-3, 0)", x.told(-3, 0), 57);
        due(18, "told(-3, 1)", x.told(-3, 1), 1);
        x.seed(1);
        due(18, "count(6)", x.count(6), 4);
        due(18, "drift(1), nothing changes", x.drift(1), 1);
        due(18, "count(6)", x.count(6), 5);
        due(18, "drift(40)", x.drift(40), 8);
        due(18, "count(6)", x.count(6), 6);
        // With 8 no POINT comes, but THE DRAW goes on.
        EvenErrors full = of("1;1;(-6,1)(-5,1)(-4,1)(0,1)(1,1)(2,1)(5,1)(6,1)");
        due(18, "drift(1) of 8", full.drift(1), 8);
        due(18, "count(1)", full.count(1), bits(-6, -5, -4, 0, 1, 2, 5, 6));
        due(18, "seed(0)", full.seed(0), 1103527590);
        full.drift(1);
        due(18, "THE DRAW behind 0", full.seed(MOST_INT), 12345);
        full.drift(1);
        due(18, "THE DRAW behind the most", full.seed(0), (12345L - 1103515245L) & 0x7fffffffL);
    }

    private static void undo() {
        EvenErrors x = new EvenErrors();
        due(19, "undo()", x.undo(), NONE);
        x.point(0, 1);
        x.seed(5);
        x.fix(0);
        x.degree(2);
        x.under(0, 2);
        text(x, "3;1;(4,4)");
        x.seed(6);
        x.drift(1);
        due(19, "count(6)", x.count(6), 6);
        due(19, "undo(), a turn", x.undo(), 5);
        due(19, "THE DRAW", x.seed(9), 6);
        due(19, "count(1)", x.count(1), bit(4));
        due(19, "undo(), a TEXT", x.undo(), 4);
        due(19, "count(0)", x.count(0), 2);
        due(19, "THE DRAW", x.seed(8), 5);
        due(19, "undo(), BENEATH", x.undo(), 3);
        due(19, "told(0, 3)", x.told(0, 3), 1);
        due(19, "undo(), THE DEGREE", x.undo(), 2);
        due(19, "count(0)", x.count(0), 1);
        due(19, "undo(), FIXED", x.undo(), 1);
        due(19, "count(2)", x.count(2), 0);
        due(19, "undo(), a POINT", x.undo(), 0);
        due(19, "count(1)", x.count(1), 0);
        due(19, "THE DRAW", x.seed(1), 1);
        due(19, "undo()", x.undo(), NONE);
        for (int k = 0; k < 8; k++) {
            x.point(k % 2, k);
        }
        x.point(0, 6);
        x.point(9, 9);
        for (int k = 5; k >= 0; k--) {
            due(19, "undo() of 8", x.undo(), k);
        }
        due(19, "undo(): older ones are lost", x.undo(), NONE);
        due(19, "told(0, 0)", x.told(0, 0), 99);
        due(19, "told(1, 0)", x.told(1, 0), 100);
        x.out(0);
        x.undo();
        due(19, "count(1), out UNDONE", x.count(1), bits(0, 1));
        x.drift(3);
        due(19, "undo(), one turn of 3", x.undo(), 2);
    }

    private static void seed() {
        EvenErrors x = new EvenErrors();
        due(20, "seed(-1)", x.seed(-1), BAD);
        due(20, "seed(least)", x.seed(LEAST_INT), BAD);
        due(20, "seed(0)", x.seed(0), 1);
        due(20, "seed(most)", x.seed(MOST_INT), 0);
        due(20, "seed(most)", x.seed(MOST_INT), MOST_INT);
        due(20, "count(6)", x.count(6), 0);
    }

    private static void image() {
        EvenErrors x = of("2;2,1;(0,3)!(1,4)");
        x.seed(44);
        due(21, "image()", x.image(), 1);
        x.type('1');
        x.sheet(0, 0, 3);
        text(x, "");
        x.point(5, 5);
        x.degree(3);
        x.under(2, 1);
        x.fix(1);
        x.seed(45);
        due(21, "image(), once more", x.image(), 1);
        x.out(5);
        due(22, "restore() of the second", x.restore(), 1);
        due(22, "count(1)", x.count(1), bits(0, 1, 5));
        due(22, "count(6)", x.count(6), 5);
        due(22, "THE DRAW", x.seed(1), 45);
    }

    private static void restore() {
        EvenErrors x = of("2;2,1;(0,3)!(1,4)");
        due(22, "restore()", x.restore(), NONE);
        x.seed(44);
        x.image();
        x.type('1');
        x.sheet(0, 0, 3);
        x.undo();
        x.drift(9);
        x.degree(0);
        due(22, "restore()", x.restore(), 1);
        due(22, "count(0)", x.count(0), 2);
        due(22, "count(1)", x.count(1), bits(0, 1));
        due(22, "count(2)", x.count(2), bit(0));
        due(22, "told(1, 0)", x.told(1, 0), 103);
        due(22, "told(1, 3)", x.told(1, 3), 3);
        due(22, "count(6)", x.count(6), 1);
        due(22, "seed(1)", x.seed(1), 44);
        due(22, "THE TAPE stays", x.type('2'), 2);
        due(22, "SHEETS stay", x.drop(0), 3);
        due(22, "undo()", x.undo(), 0);
        due(22, "count(1)", x.count(1), 0);
        due(22, "restore(), once more", x.restore(), 1);
        due(22, "count(6)", x.count(6), 1);
        x.point(3, 3);
        due(22, "best(0)", x.best(0), 0);
        x.point(4, 40);
        long far = x.best(0);
        x.image();
        x.out(4);
        due(22, "best(0), 3", x.best(0), 0);
        x.restore();
        due(22, "best(0), 4", x.best(0), far);
    }

    private static void fill(EvenErrors x, int sheet, int lane, int from, long... items) {
        for (int k = 0; k < items.length; k++) {
            x.item(sheet, lane, from + k, items[k]);
        }
    }

    private static void degrees() {
        EvenErrors x = new EvenErrors();
        due(23, "degrees(0, 0, 0, 1), nothing", x.degrees(0, 0, 0, 1), NULL);
        x.sheet(0, 1, 24);
        due(23, "degrees(-1, ..)", x.degrees(-1, 1, 0, 1), BAD);
        due(23, "degrees(4, ..)", x.degrees(4, 1, 0, 1), BAD);
        due(23, "degrees(0, 4, ..)", x.degrees(0, 4, 0, 1), BAD);
        due(23, "degrees(0, -1, ..)", x.degrees(0, -1, 0, 1), BAD);
        due(23, "degrees of 0", x.degrees(0, 1, 0, 0), BAD);
        due(23, "degrees of 9", x.degrees(0, 1, 0, 9), BAD);
        due(23, "degrees of 9, nothing", x.degrees(1, 1, 0, 9), BAD);
        due(23, "degrees by another LANE", x.degrees(0, 2, -1, 1), CAST);
        due(23, "degrees from -1", x.degrees(0, 1, -1, 1), INDEX);
        due(23, "degrees from least", x.degrees(0, 1, LEAST_INT, 1), INDEX);
        due(23, "degrees from most", x.degrees(0, 1, MOST_INT, 8), INDEX);
        due(23, "degrees from 9, 8", x.degrees(0, 1, 9, 8), INDEX);
        due(23, "degrees from 8, 8: all x are 0", x.degrees(0, 1, 8, 8), NOT);
        due(23, "degrees from 22, 1", x.degrees(0, 1, 22, 1), 15);
        fill(x, 0, 1, 1, 1, 1, 3, 9, -2, 4, 5, 25, 0, 0);
        due(23, "squares, 1", x.degrees(0, 1, 1, 1), 15);
        due(23, "squares, 2", x.degrees(0, 1, 1, 2), 14);
        due(23, "squares, 3", x.degrees(0, 1, 1, 3), 12);
        due(23, "squares, 5", x.degrees(0, 1, 1, 5), 12);
        x.item(0, 1, 10, 1);
        due(23, "squares, one amiss", x.degrees(0, 1, 1, 5), 0);
        due(23, "squares, 4", x.degrees(0, 1, 1, 4), 12);
        fill(x, 0, 1, 0, -1, 7, 2, 7, 6, 7, -6, 7);
        due(23, "level, 4", x.degrees(0, 1, 0, 4), 15);
        fill(x, 0, 1, 0, -4, -64, -3, -27, 4, 64, 0, 0, 1, 1, 2, 8, 3, 27, -1, -1);
        due(23, "cubes, 8", x.degrees(0, 1, 0, 8), 8);
        due(23, "cubes, 3", x.degrees(0, 1, 0, 3), 12);
        x.item(0, 1, 15, -2);
        due(23, "cubes, the last amiss", x.degrees(0, 1, 0, 8), 0);
        x.item(0, 1, 14, 3);
        due(23, "two x alike", x.degrees(0, 1, 0, 8), NOT);
        due(23, "two x alike, not asked", x.degrees(0, 1, 0, 7), 8);
        wrongPairs();
    }

    private static void wrongPairs() {
        EvenErrors x = new EvenErrors();
        x.sheet(3, 3, 2);
        long[][] pairs = {{7, 0}, {-7, 0}, {0, 100}, {0, -100}, {1L << 32, 0}, {0, 1L << 32}, {Long.MIN_VALUE, 0}, {0, Long.MAX_VALUE}};
        for (long[] pair : pairs) {
            fill(x, 3, 3, 0, pair);
            due(23, "degrees of " + pair[0] + ", " + pair[1], x.degrees(3, 3, 0, 1), NOT);
        }
        fill(x, 3, 3, 0, -6, -99);
        due(23, "degrees of -6, -99", x.degrees(3, 3, 0, 1), 15);
        fill(x, 3, 3, 0, 6, 99);
        due(23, "degrees of 6, 99", x.degrees(3, 3, 0, 1), 15);
        x.sheet(3, 3, 8);
        fill(x, 3, 3, 0, 1, 1, 2, 1, 3, 100, 7, 1);
        due(23, "degrees of 2 pairs", x.degrees(3, 3, 0, 2), 15);
        due(23, "degrees, the third y amiss", x.degrees(3, 3, 0, 3), NOT);
        x.item(3, 3, 5, 1);
        due(23, "degrees of 3 pairs", x.degrees(3, 3, 0, 3), 15);
        due(23, "degrees, the fourth x amiss", x.degrees(3, 3, 0, 4), NOT);
    }

    private static void film() {
        EvenErrors x = of("1;1;(3,-99)(-6,99)!(0,7)");
        due(24, "film(4, 0, 0)", x.film(4, 0, 0), BAD);
        due(24, "film(-1, 0, 0)", x.film(-1, 0, 0), BAD);
        due(24, "film(0, 4, 0)", x.film(0, 4, 0), BAD);
        due(24, "film(0, 0, 0)", x.film(0, 0, 0), NULL);
        x.sheet(0, 0, 8);
        due(24, "film by another LANE", x.film(0, 1, 9), CAST);
        due(24, "film from -1", x.film(0, 0, -1), INDEX);
        due(24, "film from 3", x.film(0, 0, 3), INDEX);
        due(24, "film from most", x.film(0, 0, MOST_INT), INDEX);
        fill(x, 0, 0, 0, 5, 1, 5, 1, 5, 1, 5, 1);
        due(24, "film from 2", x.film(0, 0, 2), 6);
        // Behind 5, 1 come -6, 99 and 0, 7 and 3, -99: copied to where their degrees are known.
        x.sheet(1, 0, 4);
        pairIs(24, x, 0, 0, 5, 1);
        pairIs(24, x, 0, 2, -6, 99);
        pairIs(24, x, 0, 4, 0, 7);
        pairIs(24, x, 0, 6, 3, -99);
        text(x, "1;1;");
        due(24, "film of none, from 8", x.film(0, 0, 8), 0);
        due(24, "film of none, from 9", x.film(0, 0, 9), INDEX);
        due(24, "film of none, from -1", x.film(0, 0, -1), INDEX);
        text(x, "1;1;(-6,1)(-5,1)(-4,1)(-3,1)(-2,1)(-1,1)(0,1)(1,1)");
        x.sheet(2, 3, 16);
        due(24, "film of 8", x.film(2, 3, 0), 16);
        due(24, "degrees of it", x.degrees(2, 3, 0, 8), 15);
    }

    /** Whether bytes i, i + 1 are x, y, by SHEET 1 of 4 bytes: level with x, y and only with it. */
    private static void pairIs(int promise, EvenErrors e, int sheet, int i, int x, int y) {
        e.copy(sheet, i, 1, 0, 2);
        fill(e, 1, 0, 2, x, y);
        due(promise, "x at " + i + " is " + x, e.degrees(1, 0, 0, 2), NOT);
        due(promise, "x, y at " + i + " are told", e.degrees(1, 0, 0, 1), 15);
        int other = x == 6 ? 5 : x + 1;
        fill(e, 1, 0, 2, other, y);
        due(promise, "y at " + i + " is " + y, e.degrees(1, 0, 0, 2), 15);
    }

    private static void sheet() {
        EvenErrors x = new EvenErrors();
        due(25, "sheet(-1, 0, 0)", x.sheet(-1, 0, 0), BAD);
        due(25, "sheet(4, 0, 0)", x.sheet(4, 0, 0), BAD);
        due(25, "sheet(0, -1, 0)", x.sheet(0, -1, 0), BAD);
        due(25, "sheet(0, 4, 0)", x.sheet(0, 4, 0), BAD);
        due(25, "sheet(0, 0, 25)", x.sheet(0, 0, 25), BAD);
        due(25, "sheet(0, 0, most)", x.sheet(0, 0, MOST_INT), BAD);
        due(25, "sheet(0, 0, -1)", x.sheet(0, 0, -1), SIZE);
        due(25, "sheet(0, 0, least)", x.sheet(0, 0, LEAST_INT), SIZE);
        due(25, "sheet(4, 0, -1)", x.sheet(4, 0, -1), BAD);
        due(25, "drop(0), refused", x.drop(0), NULL);
        due(25, "sheet(0, 0, 24)", x.sheet(0, 0, 24), 24);
        x.item(0, 0, 0, 5);
        due(25, "sheet(0, 0, -1)", x.sheet(0, 0, -1), SIZE);
        due(25, "item, 24 still", x.item(0, 0, 23, 5), 1);
        due(25, "sheet(0, 3, 2)", x.sheet(0, 3, 2), 2);
        x.item(0, 3, 0, 5);
        x.item(0, 3, 1, 9);
        x.sheet(0, 0, 4);
        due(25, "a new row: 0, 0 and 0, 0", x.degrees(0, 0, 0, 2), NOT);
        x.item(0, 0, 2, 1);
        due(25, "a new row: 0, 0 and 1, 0", x.degrees(0, 0, 0, 2), 15);
        due(25, "sheet(3, 2, 0)", x.sheet(3, 2, 0), 0);
        due(25, "drop(3)", x.drop(3), 0);
    }

    private static void drop() {
        EvenErrors x = new EvenErrors();
        due(26, "drop(-1)", x.drop(-1), BAD);
        due(26, "drop(4)", x.drop(4), BAD);
        due(26, "drop(3)", x.drop(3), NULL);
        x.sheet(3, 0, 7);
        due(26, "drop(3)", x.drop(3), 7);
        due(26, "drop(3)", x.drop(3), NULL);
        due(26, "item of nothing", x.item(3, 0, 0, 0), NULL);
    }

    private static void item() {
        EvenErrors x = new EvenErrors();
        due(27, "item of nothing", x.item(0, 0, 0, 1), NULL);
        x.sheet(0, 0, 4);
        due(27, "item(-1, ..)", x.item(-1, 0, 0, 1), BAD);
        due(27, "item(4, ..)", x.item(4, 0, 0, 1), BAD);
        due(27, "item(0, 4, ..)", x.item(0, 4, 0, 1), BAD);
        due(27, "item by another LANE", x.item(0, 1, 9, 1), CAST);
        due(27, "item -1", x.item(0, 0, -1, 1), INDEX);
        due(27, "item 4", x.item(0, 0, 4, 1), INDEX);
        due(27, "item most", x.item(0, 0, MOST_INT, 1), INDEX);
        due(27, "item 3", x.item(0, 0, 3, 1), 1);
        for (int lane = 0; lane < 4; lane++) {
            x.sheet(1, lane, 4);
            int bits = 8 << lane;
            long more = lane == 3 ? 0 : 5L << bits;
            fill(x, 1, lane, 0, more + 2, more + 3, 1, more - 2);
            due(27, "lowest bits of LANE " + lane, x.degrees(1, lane, 0, 1), 15);
            due(27, "two pairs of LANE " + lane, x.degrees(1, lane, 0, 2), 14);
            if (lane < 3) {
                x.item(1, lane, 0, 7 + (1L << bits - 1));
                due(27, "a sign in LANE " + lane, x.degrees(1, lane, 0, 1), NOT);
                x.item(1, lane, 0, (1L << bits) - 6);
                due(27, "-6 in LANE " + lane, x.degrees(1, lane, 0, 1), 15);
            }
        }
    }

    private static void copy() {
        EvenErrors x = new EvenErrors();
        due(28, "copy of nothing", x.copy(0, 0, 0, 0, 0), NULL);
        x.sheet(0, 0, 8);
        due(28, "copy to nothing", x.copy(0, -1, 1, 0, 1), NULL);
        due(28, "copy from nothing", x.copy(1, 0, 0, 0, 1), NULL);
        due(28, "copy(-1, ..)", x.copy(-1, 0, 0, 0, 1), BAD);
        due(28, "copy(.., 4, ..)", x.copy(1, 0, 4, 0, 1), BAD);
        x.sheet(1, 1, 4);
        due(28, "copy, unlike", x.copy(0, -1, 1, 0, 0), CAST);
        x.sheet(1, 0, 4);
        due(28, "copy of -1", x.copy(0, 0, 1, 0, -1), INDEX);
        due(28, "copy from -1", x.copy(0, -1, 1, 0, 0), INDEX);
        due(28, "copy to -1", x.copy(0, 0, 1, -1, 0), INDEX);
        due(28, "copy of 5 to 4", x.copy(0, 0, 1, 0, 5), INDEX);
        due(28, "copy of 5 from 4", x.copy(1, 0, 0, 0, 5), INDEX);
        due(28, "copy of most", x.copy(0, 1, 1, 1, MOST_INT), INDEX);
        due(28, "copy from most", x.copy(0, MOST_INT, 1, 0, 1), INDEX);
        due(28, "copy to most", x.copy(0, 0, 1, MOST_INT, 1), INDEX);
        due(28, "copy of 0 from 9", x.copy(0, 9, 1, 0, 0), INDEX);
        due(28, "copy of 0 to 5", x.copy(0, 0, 1, 5, 0), INDEX);
        due(28, "copy of 0 from 8 to 4", x.copy(0, 8, 1, 4, 0), 0);
        fill(x, 0, 0, 0, 1, 10, 2, 20, 3, 30, 4, 40);
        due(28, "copy on itself, up", x.copy(0, 0, 0, 2, 6), 6);
        pairIs(28, x, 0, 0, 1, 10);
        pairIs(28, x, 0, 2, 1, 10);
        pairIs(28, x, 0, 4, 2, 20);
        pairIs(28, x, 0, 6, 3, 30);
        fill(x, 0, 0, 0, 1, 10, 2, 20, 3, 30, 4, 40);
        due(28, "copy on itself, down", x.copy(0, 2, 0, 0, 6), 6);
        pairIs(28, x, 0, 0, 2, 20);
        pairIs(28, x, 0, 2, 3, 30);
        pairIs(28, x, 0, 4, 4, 40);
        pairIs(28, x, 0, 6, 4, 40);
    }
}
