/** Boundary cases of POINTS, and of promises 1 to 9. */
final class PointsBoundaries extends Boundaries {
    private static final int[] BEYOND_X = {-7, 7, 13, LEAST_INT, MOST_INT};

    /** POINTS at -6, -5 and so on, as many as told, all of y 1. */
    private static EvenErrors ofPoints(int n, int d) {
        EvenErrors x = new EvenErrors();
        x.degree(d);
        for (int k = 0; k < n; k++) {
            due(x.point(k - 6, 1), k + 1);
        }
        return x;
    }

    // ---- 1 POINTS

    @Sentence(in = "Terms", says = "at most 8 (none at first)")
    static void noPointsAtFirst() {
        EvenErrors x = new EvenErrors();
        due(x.count(1), 0);
        due(x.out(0), NONE);
        due(x.point(0, 0), 1);
    }

    @Sentence(in = "Terms", says = "at most 8 (none at first)")
    static void eightPointsAtMost() {
        EvenErrors x = ofPoints(7, 1);
        due(x.point(6, 1), 8);
        due(x.point(5, 1), FULL);
        due(x.drift(40), 8);
        due(Integer.bitCount(x.count(1)), 8);
    }

    @Sentence(in = "Terms", says = "no two of one x")
    static void aPointOfAnXThatThereIsIsNoSecondOne() {
        EvenErrors x = ofPoints(2, 1);
        due(x.point(-6, 2), 2);
        due(x.point(-5, 2), 2);
        due(x.count(1), bits(-6, -5));
        due(x.out(-6), 1);
        due(x.told(-6, 0), NONE);
    }

    @Sentence(in = "Terms", says = "x -6 .. 6, y -99 .. 99, both whole")
    static void xOfAPointIsOfMinus6To6() {
        EvenErrors x = new EvenErrors();
        due(x.point(-6, 0), 1);
        due(x.point(6, 0), 2);
        for (int beyond : BEYOND_X) {
            due(x.point(beyond, 0), BAD);
        }
        due(x.count(1), bits(-6, 6));
    }

    @Sentence(in = "Terms", says = "x -6 .. 6, y -99 .. 99, both whole")
    static void yOfAPointIsOfMinus99To99() {
        EvenErrors x = new EvenErrors();
        due(x.point(0, -99), 1);
        due(x.told(0, 0), 0);
        due(x.point(0, 99), 1);
        due(x.told(0, 0), 198);
        due(x.point(0, -100), BAD);
        due(x.point(0, 100), BAD);
        due(x.point(0, LEAST_INT), BAD);
        due(x.point(0, MOST_INT), BAD);
        due(x.told(0, 0), 198);
    }

    @Sentence(in = "Terms", says = "Some are FIXED, no more than THE DEGREE d")
    static void asManyFixedAsTheDegree() {
        for (int d = 0; d <= 3; d++) {
            EvenErrors x = ofPoints(8, d);
            for (int k = 0; k < d; k++) {
                due(x.fix(k - 6), 1);
            }
            due(x.fix(d - 6), NOT);
            due(x.fix(1), NOT);
            due(Integer.bitCount(x.count(2)), d);
        }
    }

    @Sentence(in = "Terms", says = "THE DEGREE d (0 .. 3; 1 at first)")
    static void theDegreeIs1AtFirst() {
        EvenErrors x = new EvenErrors();
        due(x.count(0), 1);
        due(x.degree(1), NOT);
        due(x.degree(0), 1);
    }

    @Sentence(in = "Terms", says = "the others are FREE")
    static void aPointIsFreeAtFirst() {
        EvenErrors x = ofPoints(3, 3);
        due(x.count(2), 0);
        due(x.told(-6, 1), 0);
        due(x.count(4), 5);
    }

    @Sentence(in = "Terms", says = "each of -3 .. 3 (1 0 0 at first)")
    static void beneathIs100AtFirst() {
        EvenErrors x = new EvenErrors();
        due(x.under(0, 1), NOT);
        due(x.under(1, 0), NOT);
        due(x.under(2, 0), NOT);
        due(x.point(6, 0), 1);
        due(x.told(6, 3), 1);
    }

    @Sentence(in = "Terms", says = "A POLE is a POINT where Q is 0.")
    static void whereNoPointIsThereIsNoPole() {
        EvenErrors x = of("1;-1,0,1;(0,3)(2,1)(3,1)");
        due(x.count(3), 0);
        due(x.point(1, 2), 4);
        due(x.count(3), bits(1));
        due(x.point(-1, 2), 5);
        due(x.count(3), bits(-1, 1));
        due(x.out(1), 4);
        due(x.count(3), bits(-1));
        due(x.out(-1), 3);
        due(x.count(3), 0);
    }

    @Sentence(in = "Terms", says = "A POLE is a POINT where Q is 0.")
    static void aFixedPointIsAPoleTooAndAllAreIfQIsZero() {
        EvenErrors x = of("1;0,1;(-6,3)(0,1)!(6,1)");
        due(x.count(3), bits(0));
        due(x.under(1, 0), 4);
        due(x.count(3), bits(-6, 0, 6));
        due(x.under(0, -1), 3);
        due(x.count(3), 0);
    }

    // ---- promise 1

    @Sentence(in = "Promise 1", says = "As told.")
    static void aNewObjectIsAsTold() {
        EvenErrors x = new EvenErrors();
        isAsNew(x);
        due(x.count(3), 0);
        due(x.undo(), NONE);
        due(x.restore(), NONE);
        due(x.read(), -20);
        for (int sheet = 0; sheet < 4; sheet++) {
            due(x.drop(sheet), NULL);
        }
    }

    @Sentence(in = "Promise 1", says = "As told.")
    static void aNewObjectHasNothingOfAnother() {
        EvenErrors other = of("3;2,2,2;(0,1)!(1,2)");
        other.seed(9);
        other.image();
        other.type('1');
        other.sheet(0, 0, 4);
        EvenErrors x = new EvenErrors();
        isAsNew(x);
        due(x.restore(), NONE);
        due(x.drop(0), NULL);
        due(x.type('1'), 1);
        due(x.point(5, 5), 1);
        due(other.count(1), bits(0, 1));
        due(other.type('1'), 2);
    }

    // ---- promise 2

    @Sentence(in = "Promise 2", says = "A POINT of x, y is told (FREE), or there is one, and its y becomes this: how many there are.")
    static void pointAnswersHowManyThereAre() {
        EvenErrors x = ofPoints(8, 1);
        due(x.point(-6, 2), 8);
        due(x.point(1, -99), 8);
        due(x.told(-6, 0), 101);
        due(x.told(1, 0), 0);
        due(x.count(6), 6);
        EvenErrors one = ofPoints(1, 2);
        due(one.count(6), 2);
        due(one.point(-6, 2), 1);
        due(one.count(6), 3);
    }

    @Sentence(in = "Promise 2", says = "or there is one, and its y becomes this")
    static void aPointToldAgainKeepsBeingFixed() {
        EvenErrors x = of("1;1;(0,5)!(1,2)");
        due(x.point(0, 6), 2);
        due(x.told(0, 0), 105);
        due(x.told(0, 1), 1);
        due(x.count(2), bits(0));
    }

    @Sentence(in = "Promise 2", says = "BAD; NOT: it is so; FULL.")
    static void pointIsBadWhereANumberIsNotAsTold() {
        EvenErrors x = new EvenErrors();
        due(x.point(-7, 0), BAD);
        due(x.point(7, 0), BAD);
        due(x.point(0, -100), BAD);
        due(x.point(0, 100), BAD);
        due(x.point(7, 100), BAD);
        due(x.count(1), 0);
        due(x.count(6), 0);
    }

    @Sentence(in = "Promise 2", says = "NOT: it is so")
    static void pointIsNotWhereItIsSo() {
        EvenErrors x = new EvenErrors();
        due(x.point(-6, 0), 1);
        due(x.point(-6, 0), NOT);
        due(x.point(-6, 99), 1);
        due(x.point(-6, 99), NOT);
        due(x.fix(-6), 1);
        due(x.point(-6, 99), NOT);
        due(x.told(-6, 1), 1);
        due(x.out(-6), 0);
        due(x.point(-6, 99), 1);
    }

    @Sentence(in = "Promise 2", says = "FULL.")
    static void aNinthPointIsFull() {
        EvenErrors x = ofPoints(8, 1);
        for (int free = 2; free <= 6; free++) {
            due(x.point(free, 1), FULL);
        }
        due(x.point(1, 1), NOT);
        due(x.point(1, 2), 8);
        due(x.out(1), 7);
        due(x.point(6, 1), 8);
        due(x.point(1, 1), FULL);
    }

    // ---- promise 3

    @Sentence(in = "Promise 3", says = "The POINT of x is out: how many are left.")
    static void outLeavesFewerDownToNone() {
        EvenErrors x = ofPoints(8, 1);
        for (int k = 7; k >= 0; k--) {
            due(x.out(k - 6), k);
        }
        due(x.count(1), 0);
    }

    @Sentence(in = "Promise 3", says = "The POINT of x is out: how many are left.")
    static void whatWasFixedIsNoLongerWhenItIsOut() {
        EvenErrors x = of("1;1;(0,5)!(1,2)");
        due(x.out(0), 1);
        due(x.count(2), 0);
        due(x.fix(1), 1);
        due(x.point(0, 5), 2);
        due(x.told(0, 1), 0);
        due(x.count(2), bits(1));
    }

    @Sentence(in = "Promise 3", says = "BAD; NONE.")
    static void outIsBadBeyondX() {
        EvenErrors x = ofPoints(8, 1);
        for (int beyond : BEYOND_X) {
            due(x.out(beyond), BAD);
        }
        due(Integer.bitCount(x.count(1)), 8);
    }

    @Sentence(in = "Promise 3", says = "NONE.")
    static void outIsNoneWhereNoPointIs() {
        EvenErrors x = new EvenErrors();
        for (int at = -6; at <= 6; at++) {
            due(x.out(at), NONE);
        }
        due(x.point(0, 1), 1);
        due(x.out(0), 0);
        due(x.out(0), NONE);
    }

    // ---- promise 4

    @Sentence(in = "Promise 4", says = "The POINT of x becomes FIXED (1), if it was FREE, or FREE (0): so it is then.")
    static void fixTurnsAPointToAndFro() {
        EvenErrors x = ofPoints(2, 1);
        due(x.fix(-6), 1);
        due(x.told(-6, 1), 1);
        due(x.fix(-6), 0);
        due(x.told(-6, 1), 0);
        due(x.fix(-6), 1);
        due(x.count(6), 5);
        due(x.count(2), bits(-6));
    }

    @Sentence(in = "Promise 4", says = "BAD; NONE; NOT: d are FIXED.")
    static void fixIsBadBeyondX() {
        EvenErrors x = ofPoints(2, 1);
        for (int beyond : BEYOND_X) {
            due(x.fix(beyond), BAD);
        }
        due(x.count(2), 0);
    }

    @Sentence(in = "Promise 4", says = "NONE; NOT: d are FIXED.")
    static void fixIsNoneWhereNoPointIs() {
        EvenErrors x = ofPoints(2, 1);
        due(x.fix(-4), NONE);
        due(x.fix(6), NONE);
        due(x.out(-5), 1);
        due(x.fix(-5), NONE);
    }

    @Sentence(in = "Promise 4", says = "NOT: d are FIXED.")
    static void fixIsNotWhereDAreFixed() {
        EvenErrors none = ofPoints(1, 0);
        due(none.fix(-6), NOT);
        EvenErrors x = ofPoints(4, 2);
        due(x.fix(-6), 1);
        due(x.fix(-5), 1);
        due(x.fix(-4), NOT);
        due(x.count(2), bits(-6, -5));
        // One that is FIXED may become FREE though d are, and then another one may be.
        due(x.fix(-5), 0);
        due(x.fix(-4), 1);
        due(x.fix(-5), NOT);
        due(x.out(-6), 3);
        due(x.fix(-5), 1);
    }

    // ---- promise 5

    @Sentence(in = "Promise 5", says = "THE DEGREE becomes d: what it was.")
    static void degreeAnswersWhatItWas() {
        EvenErrors x = new EvenErrors();
        due(x.degree(0), 1);
        due(x.degree(3), 0);
        due(x.degree(2), 3);
        due(x.degree(1), 2);
        due(x.count(0), 1);
        due(x.count(6), 4);
    }

    @Sentence(in = "Promise 5", says = "BAD; NOT: it is so, or more are FIXED.")
    static void degreeIsBadBeyond0To3() {
        EvenErrors x = new EvenErrors();
        due(x.degree(-1), BAD);
        due(x.degree(4), BAD);
        due(x.degree(LEAST_INT), BAD);
        due(x.degree(MOST_INT), BAD);
        due(x.count(0), 1);
    }

    @Sentence(in = "Promise 5", says = "NOT: it is so")
    static void degreeIsNotWhereItIsSo() {
        EvenErrors x = new EvenErrors();
        due(x.degree(1), NOT);
        for (int d = 3; d >= 0; d--) {
            if (d != 1) {
                due(x.degree(d) >= 0 ? 1 : 0, 1);
                due(x.degree(d), NOT);
            }
        }
        due(x.count(6), 3);
    }

    @Sentence(in = "Promise 5", says = "or more are FIXED.")
    static void degreeIsNotBelowHowManyAreFixed() {
        EvenErrors x = ofPoints(4, 3);
        due(x.fix(-6), 1);
        due(x.degree(0), NOT);
        due(x.degree(1), 3);
        due(x.degree(3), 1);
        due(x.fix(-5), 1);
        due(x.degree(1), NOT);
        due(x.degree(2), 3);
        due(x.degree(3), 2);
        due(x.fix(-4), 1);
        due(x.degree(2), NOT);
        due(x.degree(0), NOT);
        due(x.fix(-4), 0);
        due(x.degree(2), 3);
    }

    // ---- promise 6

    @Sentence(in = "Promise 6", says = "q0, q1, q2 (j 0 .. 2) becomes v: what it was, and 3 together.")
    static void underAnswersWhatItWasAndThreeTogether() {
        EvenErrors x = new EvenErrors();
        for (int j = 0; j < 3; j++) {
            due(x.under(j, -3), j == 0 ? 4 : 3);
            due(x.under(j, 3), 0);
            due(x.under(j, -1), 6);
        }
        // -1 less 2 less 4
        due(x.point(2, 0), 1);
        due(x.told(2, 3), 7);
        due(x.count(6), 6);
    }

    @Sentence(in = "Promise 6", says = "BAD; NOT: it is so.")
    static void underIsBadBeyondJAndV() {
        EvenErrors x = new EvenErrors();
        due(x.under(-1, 2), BAD);
        due(x.under(3, 2), BAD);
        due(x.under(LEAST_INT, 2), BAD);
        due(x.under(MOST_INT, 2), BAD);
        for (int j = 0; j < 3; j++) {
            due(x.under(j, -4), BAD);
            due(x.under(j, 4), BAD);
            due(x.under(j, LEAST_INT), BAD);
            due(x.under(j, MOST_INT), BAD);
        }
        isAsNew(x);
    }

    @Sentence(in = "Promise 6", says = "NOT: it is so.")
    static void underIsNotWhereItIsSo() {
        EvenErrors x = new EvenErrors();
        for (int j = 0; j < 3; j++) {
            due(x.under(j, j == 0 ? 1 : 0), NOT);
            due(x.under(j, 2), j == 0 ? 4 : 3);
            due(x.under(j, 2), NOT);
        }
        due(x.count(6), 3);
    }

    // ---- promise 7

    @Sentence(in = "Promise 7", says = "Of the POINT of x: 0 y and 99 together")
    static void toldYIsOf0To198() {
        EvenErrors x = of("1;1;(-6,-99)(0,0)(6,99)");
        due(x.told(-6, 0), 0);
        due(x.told(0, 0), 99);
        due(x.told(6, 0), 198);
    }

    @Sentence(in = "Promise 7", says = "2 its number by x (0 on)")
    static void toldNumbersAreOf0To7ByX() {
        EvenErrors x = of("1;1;(6,1)(5,1)(4,1)(0,1)(-1,1)(-4,1)(-5,1)(-6,1)!");
        int[] xs = {-6, -5, -4, -1, 0, 4, 5, 6};
        for (int k = 0; k < 8; k++) {
            due(x.told(xs[k], 2), k);
        }
        due(x.out(-6), 7);
        due(x.told(6, 2), 6);
        due(x.told(-5, 2), 0);
    }

    @Sentence(in = "Promise 7", says = "3 Q there without its sign.")
    static void toldQIsWithoutItsSign() {
        EvenErrors x = of("1;-3,-3,-3;(-6,1)(0,1)(6,1)(1,1)");
        due(x.told(6, 3), 129);
        due(x.told(-6, 3), 93);
        due(x.told(0, 3), 3);
        x.under(2, 3);
        x.under(1, 0);
        due(x.told(1, 3), 0);
        due(x.told(6, 3), 105);
    }

    @Sentence(in = "Promise 7", says = "BAD; NONE.")
    static void toldIsBadBeyondXAndWhat() {
        EvenErrors x = of("1;1;(-6,1)(6,1)");
        for (int beyond : BEYOND_X) {
            due(x.told(beyond, 0), BAD);
        }
        due(x.told(6, -1), BAD);
        due(x.told(6, 4), BAD);
        due(x.told(6, LEAST_INT), BAD);
        due(x.told(6, MOST_INT), BAD);
    }

    @Sentence(in = "Promise 7", says = "NONE.")
    static void toldIsNoneWhereNoPointIs() {
        EvenErrors x = of("1;1;(-6,1)(6,1)");
        for (int what = 0; what <= 3; what++) {
            due(x.told(0, what), NONE);
            due(x.told(5, what), NONE);
        }
        due(x.out(6), 1);
        due(x.told(6, 0), NONE);
    }

    // ---- promise 8

    @Sentence(in = "Promise 8", says = "4 m, 5 WHY, 6 what may be UNDONE.")
    static void countOfMIsOf2To5() {
        for (int d = 0; d <= 3; d++) {
            EvenErrors x = ofPoints(5, d);
            due(x.count(4), d + 2);
            for (int k = 0; k < d; k++) {
                due(x.fix(k - 6), 1);
                due(x.count(4), d + 1 - k);
            }
        }
    }

    @Sentence(in = "Promise 8", says = "6 what may be UNDONE.")
    static void countOfWhatMayBeUndoneIsOf0To6() {
        EvenErrors x = new EvenErrors();
        for (int k = 0; k <= 8; k++) {
            due(x.count(6), Math.min(k, 6));
            due(x.point(0, k), 1);
        }
        due(x.undo(), 5);
        due(x.count(6), 5);
    }

    @Sentence(in = "Promise 8", says = "1 POINTS (a SET), 2 FIXED ones, 3 POLES (SETS)")
    static void countOfNoneIsAnEmptySet() {
        EvenErrors x = new EvenErrors();
        x.under(0, 0);
        due(x.count(1), 0);
        due(x.count(2), 0);
        due(x.count(3), 0);
    }

    @Sentence(in = "Promise 8", says = "BAD.")
    static void countIsBadBeyond0To6() {
        EvenErrors x = new EvenErrors();
        due(x.count(-1), BAD);
        due(x.count(7), BAD);
        due(x.count(LEAST_INT), BAD);
        due(x.count(MOST_INT), BAD);
    }

    // ---- promise 9

    @Sentence(in = "Promise 9", says = "One letter more behind THE TAPE: how many it has.")
    static void typeAnswersHowManyOf1To90() {
        EvenErrors x = new EvenErrors();
        for (int k = 1; k <= 90; k++) {
            due(x.type(k % 2 == 0 ? ' ' : '~'), k);
        }
        due(x.read(), -20);
        due(x.type(' '), 1);
    }

    @Sentence(in = "Promise 9", says = "BAD: not 32 .. 126")
    static void typeIsBadBeyond32To126() {
        EvenErrors x = new EvenErrors();
        due(x.type(31), BAD);
        due(x.type(32), 1);
        due(x.type(126), 2);
        due(x.type(127), BAD);
        due(x.type(0), BAD);
        due(x.type(-1), BAD);
        due(x.type(256 + '1'), BAD);
        due(x.type(LEAST_INT), BAD);
        due(x.type(MOST_INT), BAD);
        due(x.type('1'), 3);
    }

    @Sentence(in = "Promise 9", says = "FULL: 90.")
    static void aNinetyFirstLetterIsFull() {
        EvenErrors x = new EvenErrors();
        for (int k = 1; k <= 90; k++) {
            due(x.type(' '), k);
        }
        due(x.type(' '), FULL);
        due(x.type('1'), FULL);
        due(x.read(), -110);
        due(x.type('1'), 1);
    }
}
