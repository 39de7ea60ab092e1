/** Boundary cases of FITS, of THE EXCHANGE, and of promises 11 to 17. */
final class FitBoundaries extends Boundaries {
    private static final int[] BEYOND_X = {-7, 7, 13, LEAST_INT, MOST_INT};
    private static final int[] BEYOND_SIGN = {-1, 3, LEAST_INT, MOST_INT};

    /** So many POINTS from -6 on, in a zigzag that no polynomial of degree 3 goes through, if they are 5. */
    private static EvenErrors ofPoints(int n, int d) {
        EvenErrors x = new EvenErrors();
        x.degree(d);
        for (int k = 0; k < n; k++) {
            due(x.point(k - 6, k % 2), k + 1);
        }
        return x;
    }

    /** What is asked of a FIT alone is NONE. */
    private static void noFitAlone(EvenErrors x) {
        for (int what = 0; what <= 2; what++) {
            for (int j = 0; j <= 3; j++) {
                due(x.part(j, what), NONE);
            }
            for (int at = -6; at <= 6; at++) {
                due(x.value(at, what), NONE);
                due(x.error(at, what), NONE);
            }
        }
    }

    private static void noStep(EvenErrors x) {
        least(x, 0, 1);
        due(x.best(2), 0);
        due(x.best(3), 0);
        due(x.best(4), 0);
        due(x.best(6), 0);
        due(x.best(7), 0);
        for (int what = 0; what <= 4; what++) {
            due(x.step(0, what), NONE);
        }
    }

    // ---- FITS

    @Sentence(in = "Terms", says = "P a polynomial of degree d at most (its numbers may be fractions)")
    static void pHasNoHigherPartsThanTheDegree() {
        EvenErrors x = of("0;1;(0,0)(1,1)(2,5)(4,2)(6,3)");
        part(x, 0, 5, 2, 1);
        for (int d = 0; d <= 3; d++) {
            x.degree(d);
            for (int j = d + 1; j <= 3; j++) {
                part(x, j, 0, 1, 0);
            }
            due(x.part(d, 2) == 0 ? 1 : 0, 0);
        }
    }

    @Sentence(in = "Terms", says = "P a polynomial of degree d at most (its numbers may be fractions)")
    static void pMayBeOfALowerDegree() {
        EvenErrors x = of("3;1;(-6,-6)(-1,-1)(0,0)(1,1)(6,6)");
        least(x, 0, 1);
        part(x, 0, 0, 1, 0);
        part(x, 1, 1, 1, 1);
        part(x, 2, 0, 1, 0);
        part(x, 3, 0, 1, 0);
        EvenErrors none = of("2;1;(0,0)(1,0)(5,0)(6,0)");
        for (int j = 0; j <= 3; j++) {
            part(none, j, 0, 1, 0);
        }
    }

    @Sentence(in = "Terms", says = "so that at each FIXED POINT it is y.")
    static void aFitIsYAtFixedPointsHoweverFarTheyAre() {
        EvenErrors x = of("3;-2;(-6,99)!(0,-99)!(6,99)!(1,0)(-5,0)(3,3)");
        value(x, -6, 99, 1, 1);
        value(x, 0, 99, 1, 2);
        value(x, 6, 99, 1, 1);
        error(x, -6, 0, 1, 0);
        error(x, 0, 0, 1, 0);
        error(x, 6, 0, 1, 0);
        due(x.best(0) > 0 ? 1 : 0, 1);
    }

    @Sentence(in = "Terms", says = "THE ERROR of a FIT at a POINT: y less the FIT there.")
    static void anErrorIsAboveZeroWhereYIsAboveTheFit() {
        EvenErrors x = of("0;1;(0,9)(1,5)(2,7)");
        value(x, 0, 7, 1, 1);
        error(x, 0, 2, 1, 1);
        error(x, 1, 2, 1, 2);
        error(x, 2, 0, 1, 0);
    }

    @Sentence(in = "Terms", says = "the greatest ERROR, without its sign, at FREE POINTS is the least; that is THE LEAST.")
    static void theLeastIsOfErrorsWithoutTheirSigns() {
        EvenErrors x = of("0;1;(0,-9)(1,1)(2,3)(3,2)");
        least(x, 6, 1);
        value(x, 0, 3, 1, 2);
        due(x.best(2), bits(0, 2));
        due(x.best(3), bits(2));
        // What is FIXED counts for nothing: the line through it alone is free to turn.
        EvenErrors fixed = of("1;1;(0,-99)!(1,0)(2,99)");
        least(fixed, 0, 1);
        value(fixed, 6, 495, 1, 1);
    }

    @Sentence(in = "Terms", says = "A REFERENCE: m FREE POINTS, m being d and 2 less how many are FIXED.")
    static void aReferenceIsOf2To5FreePoints() {
        for (int d = 0; d <= 3; d++) {
            for (int fixed = 0; fixed <= d; fixed++) {
                EvenErrors x = ofPoints(8, d);
                for (int k = 0; k < fixed; k++) {
                    due(x.fix(1 - k), 1);
                }
                int m = d + 2 - fixed;
                due(x.count(4), m);
                due(x.level((1 << m) - 1, 1) > 0 ? 1 : 0, 1);
                due(x.level((1 << m - 1) - 1, 1), NOT);
                due(x.level((1 << m + 1) - 1, 1), NOT);
                due(Long.bitCount(x.best(7)), m);
            }
        }
    }

    // ---- LEAN and LEVEL

    @Sentence(in = "Terms", says = "LEAN of a FIT at a FREE POINT: the sign of its ERROR there, of Q there,")
    static void aLeanIsTurnedOverWhereQIsBelowZero() {
        level(of("0;1;(0,1)(1,0)"), bits(0, 1), 1, 2, 1);
        level(of("0;-1;(0,1)(1,0)"), bits(0, 1), 1, 2, 2);
        level(of("0;1;(0,0)(1,1)"), bits(0, 1), 1, 2, 2);
        level(of("0;-1;(0,0)(1,1)"), bits(0, 1), 1, 2, 1);
        // Q is -1 at 0 and 1 at 2: ERRORS of one sign LEAN by turns.
        EvenErrors x = of("0;-1,1;(0,1)(2,0)");
        level(x, bits(0, 2), 1, 2, 2);
        error(x, 0, 1, 2, 1);
        error(x, 2, 1, 2, 1);
        due(x.best(4), 2);
    }

    @Sentence(in = "Terms", says = "of x less each FIXED x, all multiplied.")
    static void aLeanIsTurnedOverByEachFixedXAboveIt() {
        level(of("1;1;(-1,0)!(0,1)(1,0)"), bits(0, 1), 2, 3, 1);
        level(of("1;1;(0,1)(1,0)(2,0)!"), bits(0, 1), 1, 3, 2);
        level(of("2;1;(0,1)(1,0)(2,0)!(3,0)!"), bits(0, 1), 1, 4, 1);
        EvenErrors x = of("1;1;(0,1)(1,0)!(2,0)");
        level(x, bits(0, 2), 1, 2, 2);
        error(x, 0, 1, 2, 1);
        error(x, 2, 1, 2, 1);
        due(x.best(4), 2);
        // Of both the FIXED x and Q.
        level(of("1;-1;(0,1)(1,0)!(2,0)"), bits(0, 2), 1, 2, 1);
    }

    @Sentence(in = "Terms", says = "if all ERRORS there are h or -h, one h of 0 or more, and LEANS (if h is above 0),")
    static void hMayBeZeroAndThenNothingLeans() {
        EvenErrors x = of("1;2;(0,3)(1,2)(2,1)(3,9)");
        level(x, bits(0, 1, 2), 0, 1, 0);
        due(x.level(bits(1, 2, 3), 0) > 0 ? 1 : 0, 1);
        due(x.level(bits(1, 2, 3), 2) > 0 ? 1 : 0, 1);
        x.fix(0);
        level(x, bits(1, 2), 0, 1, 0);
    }

    @Sentence(in = "Terms", says = "gone over by x, are up, down, up, .. or down, up, down, ..: there is just one.")
    static void levelGoesByTheLeanAtTheFirstWhetherMIsOddOrEven() {
        // h by second and third differences: of up, down, up, .. and down, up, down, ..
        level(of("0;1;(0,2)(1,0)"), bits(0, 1), 1, 1, 1);
        level(of("1;1;(0,0)(1,4)(2,0)"), bits(0, 1, 2), 2, 1, 2);
        level(of("1;1;(0,4)(1,0)(2,4)"), bits(0, 1, 2), 2, 1, 1);
        level(of("2;1;(0,1)(1,-1)(2,1)(3,-1)"), bits(0, 1, 2, 3), 1, 1, 1);
        level(of("2;1;(0,-1)(1,1)(2,-1)(3,1)"), bits(0, 1, 2, 3), 1, 1, 2);
        level(of("3;1;(0,1)(1,-1)(2,1)(3,-1)(4,1)"), bits(0, 1, 2, 3, 4), 1, 1, 1);
        level(of("3;1;(0,-1)(1,1)(2,-1)(3,1)(4,-1)"), bits(0, 1, 2, 3, 4), 1, 1, 2);
    }

    // ---- THE EXCHANGE

    @Sentence(in = "Terms", says = "(POINTS are no POLES; else what is asked is NONE.)")
    static void allThatIsAskedIsNoneWhereThereIsAPole() {
        EvenErrors x = of("1;-1,0,1;(0,3)(3,2)(2,1)(5,7)(1,4)");
        for (int what = 0; what <= 7; what++) {
            due(x.best(what), NONE);
        }
        noFitAlone(x);
        for (int what = 0; what <= 4; what++) {
            due(x.step(0, what), NONE);
        }
        due(x.level(bits(0, 2, 3), 0), NONE);
        due(x.level(bits(0, 1, 2), 2), NONE);
        for (int c = 0; c <= 10; c++) {
            due(x.lost(c, 0), NONE);
            due(x.lost(c, 1), NONE);
        }
    }

    @Sentence(in = "Terms", says = "(POINTS are no POLES; else what is asked is NONE.)")
    static void aPoleCountsWhereItIsFixedAndWithFewPoints() {
        EvenErrors x = of("1;0,1;(0,3)!(3,2)(2,1)(5,7)");
        due(x.best(0), NONE);
        due(x.lost(0, 0), NONE);
        EvenErrors few = of("3;0,1;(0,3)");
        due(few.best(0), NONE);
        due(few.best(5), NONE);
        due(few.lost(0, 0), NONE);
        due(few.level(bits(0), 0), NONE);
    }

    @Sentence(in = "Terms", says = "(POINTS are no POLES; else what is asked is NONE.)")
    static void whereQIsZeroAndNoPointIsAllIsAnswered() {
        EvenErrors x = of("1;-1,0,1;(0,3)(3,2)(2,1)(1,4)");
        due(x.best(0), NONE);
        due(x.out(1), 3);
        due(x.best(5), 1);
        due(x.best(6), 1);
        due(x.step(0, 0), bits(0, 2, 3));
        due(x.undo(), 1);
        due(x.best(0), NONE);
        x.under(0, 3);
        due(x.best(5), 1);
    }

    @Sentence(in = "Terms", says = "THE EXCHANGE begins with the REFERENCE of the first m FREE POINTS, by x.")
    static void theFirstReferenceLeavesFixedPointsOut() {
        EvenErrors x = of("2;1;(6,1)(-6,3)!(5,2)(-5,1)(3,7)(0,2)!(1,4)");
        due(x.step(0, 0), bits(-5, 1));
        due(x.fix(-6), 0);
        due(x.step(0, 0), bits(-6, -5, 1));
        due(x.fix(0), 0);
        due(x.step(0, 0), bits(-6, -5, 0, 1));
        due(x.degree(3), 2);
        due(x.step(0, 0), bits(-6, -5, 0, 1, 3));
    }

    @Sentence(in = "Terms", says = "(of like ones the least x)")
    static void ofLikeErrorsThatOfTheLeastXComesIn() {
        // THE FIT is 0: 5, 5 and -5.
        EvenErrors x = of("0;1;(-3,0)(-2,0)(0,5)(1,5)(2,-5)");
        step(x, 0, bits(-3, -2), 0, 1);
        exchanged(x, 0, 0, -3);
        EvenErrors turned = of("0;1;(-3,0)(-2,0)(0,-5)(1,5)(2,5)");
        exchanged(turned, 0, 0, -2);
    }

    @Sentence(in = "Terms", says = "if that is h, it's THE BEST FIT, it was the last STEP.")
    static void thePointsOutsideTheReferenceMayHaveHToo() {
        EvenErrors x = of("0;1;(0,0)(1,2)(2,0)(3,2)(4,1)");
        step(x, 0, bits(0, 1), 1, 1);
        lastStep(x, 0);
        due(x.best(2), bits(0, 1, 2, 3));
        due(x.best(7), bits(0, 1));
    }

    @Sentence(in = "Terms", says = "if that is h, it's THE BEST FIT, it was the last STEP.")
    static void withAsManyPointsAsAReferenceNeedsThereIsOneStep() {
        for (int d = 0; d <= 3; d++) {
            EvenErrors x = ofPoints(d + 2, d);
            due(x.step(0, 0), (1 << d + 2) - 1);
            lastStep(x, 0);
            due(x.best(2), (1 << d + 2) - 1);
            due(x.best(4), d + 2);
        }
    }

    @Sentence(in = "Terms", says = "in place of the one of THE REFERENCE next to it, below or above by x, that has the same LEAN;")
    static void betweenTwoTheOneBelowGoesIfItHasTheLean() {
        EvenErrors x = of("1;1;(1,0)(2,0)(3,0)(5,1)");
        step(x, 1, bits(1, 2, 5), 1, 8);
        exchanged(x, 1, 3, 2);
        step(x, 2, bits(1, 3, 5), 1, 4);
        lastStep(x, 2);
    }

    @Sentence(in = "Terms", says = "in place of the one of THE REFERENCE next to it, below or above by x, that has the same LEAN;")
    static void betweenTwoTheOneAboveGoesIfItHasTheLean() {
        EvenErrors x = of("1;1;(0,-3)(1,0)(2,0)(4,0)(5,1)");
        step(x, 1, bits(0, 1, 5), 11, 10);
        exchanged(x, 1, 4, 5);
        due(x.step(2, 0), bits(0, 1, 4));
        EvenErrors fixed = of("1;1;(1,2)(2,2)(3,0)!(4,2)(5,1)");
        step(fixed, 1, bits(2, 5), 5, 3);
        exchanged(fixed, 1, 4, 5);
    }

    @Sentence(in = "Terms", says = "in place of the one of THE REFERENCE next to it, below or above by x, that has the same LEAN;")
    static void atTheEndsTheNextOneGoesIfItHasTheLean() {
        EvenErrors behind = of("0;1;(0,0)(1,1)(3,2)");
        step(behind, 0, bits(0, 1), 1, 2);
        exchanged(behind, 0, 3, 1);
        EvenErrors ahead = of("1;1;(0,2)(2,1)(3,0)(5,0)");
        step(ahead, 1, bits(2, 3, 5), 1, 3);
        exchanged(ahead, 1, 0, 2);
    }

    @Sentence(in = "Terms", says = "if none has, it stands ahead of or behind all: then that at the other end goes out.")
    static void behindAllTheFirstGoesIfTheLastHasNotTheLean() {
        EvenErrors x = of("0;1;(0,1)(1,0)(3,2)");
        step(x, 0, bits(0, 1), 1, 2);
        exchanged(x, 0, 3, 0);
        EvenErrors three = of("1;1;(0,0)(1,0)(3,1)(5,0)");
        step(three, 0, bits(0, 1, 3), 1, 6);
        exchanged(three, 0, 5, 0);
    }

    @Sentence(in = "Terms", says = "if none has, it stands ahead of or behind all: then that at the other end goes out.")
    static void aheadOfAllTheLastGoesIfTheFirstHasNotTheLean() {
        EvenErrors x = of("1;1;(0,1)!(1,-1)(3,-2)(4,6)(5,-1)");
        step(x, 2, bits(4, 5), 11, 3);
        exchanged(x, 2, 3, 5);
        due(x.step(3, 0), bits(3, 4));
        EvenErrors below = of("1;-1;(0,1)!(1,3)(2,4)(3,0)(5,5)");
        step(below, 2, bits(3, 5), 17, 8);
        exchanged(below, 2, 2, 5);
    }

    @Sentence(in = "Terms", says = "(h being 0, LEANS of THE REFERENCE count as up, down, up, .. by x.)")
    static void withHZeroTheFirstOfAReferenceCountsAsUp() {
        // The last of 2 and of 4 counts as down, the last of 3 and of 5 as up.
        exchanged(of("0;1;(1,0)(3,0)(5,1)"), 0, 5, 1);
        exchanged(of("0;1;(1,0)(3,0)(5,-1)"), 0, 5, 3);
        exchanged(of("1;1;(1,0)(2,0)(3,0)(5,1)"), 0, 5, 3);
        exchanged(of("1;1;(1,0)(2,0)(3,0)(5,-1)"), 0, 5, 1);
        exchanged(of("2;1;(1,0)(2,0)(3,0)(4,0)(5,1)"), 0, 5, 1);
        exchanged(of("2;1;(1,0)(2,0)(3,0)(4,0)(5,-1)"), 0, 5, 4);
        exchanged(of("3;1;(0,0)(1,0)(2,0)(3,0)(4,0)(5,1)"), 0, 5, 4);
        exchanged(of("3;1;(0,0)(1,0)(2,0)(3,0)(4,0)(5,-1)"), 0, 5, 0);
    }

    @Sentence(in = "Terms", says = "(h being 0, LEANS of THE REFERENCE count as up, down, up, .. by x.)")
    static void withHZeroWhatComesInHasItsOwnLean() {
        // Up with a Q below 0 leans down; so it does ahead of a FIXED x.
        exchanged(of("0;-1;(1,0)(3,0)(5,1)"), 0, 5, 3);
        exchanged(of("0;-1;(1,0)(3,0)(5,-1)"), 0, 5, 1);
        exchanged(of("1;1;(1,0)(2,0)(4,4)(5,0)!"), 0, 4, 2);
        exchanged(of("1;-1;(1,0)(2,0)(4,4)(5,0)!"), 0, 4, 1);
    }

    // ---- few POINTS

    @Sentence(in = "Terms", says = "With less than d and 2 POINTS in all there is no REFERENCE, no STEP: THE LEAST is 0.")
    static void withLessThanDAnd2PointsThereIsNoStep() {
        for (int d = 0; d <= 3; d++) {
            for (int n = 0; n < d + 2; n++) {
                EvenErrors x = ofPoints(n, d);
                noStep(x);
                due(x.level((1 << n) - 1, 0), NOT);
                due(x.level((1 << d + 2) - 1, 0), NOT);
                lost(x, 3, 1, 1);
            }
            EvenErrors enough = ofPoints(d + 2, d);
            due(enough.best(6), 1);
            due(enough.level((1 << d + 2) - 1, 0) >= 0 ? 1 : 0, 1);
        }
    }

    @Sentence(in = "Terms", says = "With less than d and 2 POINTS in all there is no REFERENCE, no STEP: THE LEAST is 0.")
    static void fixedPointsAreAmongAllPoints() {
        EvenErrors x = of("3;1;(0,9)!(1,1)!(2,5)!(3,2)");
        noStep(x);
        due(x.level(bits(3), 0), NOT);
        due(x.point(4, 7), 5);
        due(x.best(6), 1);
        due(x.best(7), bits(3, 4));
        due(x.out(0), 4);
        noStep(x);
    }

    @Sentence(in = "Terms", says = "If it's d and 1 just, THE BEST FIT goes through all;")
    static void withDAnd1PointsTheBestFitGoesThroughAll() {
        for (int d = 0; d <= 3; d++) {
            EvenErrors x = ofPoints(d + 1, d);
            x.under(0, -2);
            due(x.best(5), 1);
            noStep(x);
            for (int k = 0; k <= d; k++) {
                value(x, k - 6, k % 2, 1, k % 2);
                error(x, k - 6, 0, 1, 0);
            }
            due(x.part(d, 2) == 0 ? 1 : 0, d == 0 ? 1 : 0);
        }
        EvenErrors fixed = of("2;1;(0,1)!(1,3)!(2,7)");
        value(fixed, 3, 13, 1, 1);
        part(fixed, 2, 1, 1, 1);
        error(fixed, 2, 0, 1, 0);
    }

    @Sentence(in = "Terms", says = "if it's less, there is more than one: what is asked of it is NONE.")
    static void withLessThanDAnd1PointsThereIsMoreThanOneFit() {
        for (int d = 0; d <= 3; d++) {
            for (int n = 0; n <= d; n++) {
                EvenErrors x = ofPoints(n, d);
                due(x.best(5), 0);
                noFitAlone(x);
            }
            due(ofPoints(d + 1, d).best(5), 1);
            due(ofPoints(d + 2, d).best(5), 1);
            due(ofPoints(8, d).best(5), 1);
        }
        EvenErrors fixed = of("2;1;(0,1)!(1,3)!");
        due(fixed.best(5), 0);
        noFitAlone(fixed);
    }

    // ---- REACHED, TURNS, WHY, LOST

    @Sentence(in = "Terms", says = "without its sign, is THE LEAST (none without a STEP).")
    static void withoutAStepNoneIsReached() {
        EvenErrors x = of("1;1;(0,0)(1,1)");
        due(x.best(2), 0);
        due(x.point(2, 2), 3);
        due(x.best(2), bits(0, 1, 2));
        due(x.best(3), 0);
        due(x.out(0), 2);
        due(x.best(2), 0);
    }

    @Sentence(in = "Terms", says = "REACHED: FREE POINTS at which THE ERROR of THE BEST FIT, without its sign, is THE LEAST")
    static void aFixedPointIsNotReachedThoughTheLeastIsZero() {
        EvenErrors x = of("1;1;(0,0)!(1,1)(2,2)(3,3)");
        least(x, 0, 1);
        due(x.best(2), bits(1, 2, 3));
        due(x.best(7), bits(1, 2));
        due(x.best(4), 0);
    }

    @Sentence(in = "Terms", says = "so that LEANS of each two that follow each other are up and down or down and up (0, if THE LEAST is 0).")
    static void turnsMayBeMoreThanMAndFewerThanReached() {
        EvenErrors more = of("0;1;(0,0)(1,2)(2,0)(3,2)(4,0)(5,2)(6,0)(-1,2)");
        due(more.best(4), 8);
        due(more.count(4), 2);
        EvenErrors fewer = of("0;1;(0,0)(1,0)(2,0)(3,2)(4,2)(5,2)");
        due(fewer.best(2), bits(0, 1, 2, 3, 4, 5));
        due(fewer.best(4), 2);
    }

    @Sentence(in = "Terms", says = "so that LEANS of each two that follow each other are up and down or down and up (0, if THE LEAST is 0).")
    static void turnsAreOfLeansAndNotOfErrors() {
        // Both ERRORS are above 0, on both sides of a FIXED x, then on both sides of where Q is 0.
        EvenErrors fixed = of("1;1;(-1,3)(0,0)!(1,1)");
        due(fixed.best(3), bits(-1, 1));
        due(fixed.best(4), 2);
        EvenErrors sides = of("0;0,1;(-2,1)(3,1)");
        due(sides.best(3), bits(-2, 3));
        due(sides.best(4), 2);
    }

    @Sentence(in = "Terms", says = "(0, if THE LEAST is 0).")
    static void turnsAreNoneWhereTheLeastIsZero() {
        EvenErrors x = of("1;1;(0,0)(1,1)(2,2)(3,3)");
        due(x.best(2), bits(0, 1, 2, 3));
        due(x.best(4), 0);
        due(x.point(3, 4), 4);
        due(x.best(4), 3);
    }

    @Sentence(in = "Terms", says = "WHY: 1 there is a POLE, 2 there are less than d and 2 POINTS, 0 neither (of both the first).")
    static void whyTellsAPoleFirst() {
        EvenErrors x = of("1;0,1;(1,2)(2,2)");
        due(x.count(5), 2);
        due(x.point(0, 2), 3);
        due(x.count(5), 1);
        due(x.out(2), 2);
        due(x.count(5), 1);
        due(x.under(0, 1), 3);
        due(x.count(5), 2);
        due(x.point(3, 2), 3);
        due(x.count(5), 0);
        for (int d = 0; d <= 3; d++) {
            due(ofPoints(d + 1, d).count(5), 2);
            due(ofPoints(d + 2, d).count(5), 0);
            due(ofPoints(0, d).count(5), 2);
        }
        due(of("3;1;(0,1)!(1,1)!(2,1)!(3,1)(4,1)").count(5), 0);
    }

    @Sentence(in = "Terms", says = "LOST by c of 10 (0 .. 10): each FREE POINT is lost by c of 10, apart:")
    static void lostBy0IsSureAndBy10Not() {
        EvenErrors x = of("1;1;(0,0)(1,3)(2,0)(3,9)");
        lost(x, 0, 1, 1);
        lost(x, 10, 0, 1);
        // 2 and 3 and one of 0 and 1 have to be left.
        lost(x, 1, 8019, 10000);
        lost(x, 9, 19, 10000);
        lost(x, 5, 3, 16);
    }

    @Sentence(in = "Terms", says = "each FREE POINT is lost by c of 10, apart: how likely THE LEAST is as great as it is.")
    static void fixedPointsAreNotLostAndTooFewPointsHaveALeastOfZero() {
        EvenErrors x = of("2;1;(0,5)!(1,0)!(2,7)(3,-7)");
        due(x.best(0) > 0 ? 1 : 0, 1);
        lost(x, 5, 1, 4);
        lost(x, 1, 81, 100);
        lost(x, 10, 0, 1);
        // h is 1, and y at 1 is 1 more than at the FIXED 0: but both FREE ones have to be left.
        EvenErrors like = of("1;1;(0,0)!(1,1)(2,5)");
        least(like, 1, 1);
        lost(like, 5, 1, 4);
    }

    @Sentence(in = "Terms", says = "how likely THE LEAST is as great as it is.")
    static void lostIsOfThePointsThatThereAreNow() {
        EvenErrors x = of("0;1;(0,5)(1,5)(2,5)(3,-5)");
        lost(x, 5, 7, 16);
        due(x.point(3, 5), 4);
        lost(x, 5, 1, 1);
        due(x.point(0, 7), 4);
        lost(x, 5, 7, 16);
        due(x.point(1, 9), 4);
        // 5 and 9: of 1, and of 2 and 3 one.
        lost(x, 5, 3, 8);
        due(x.out(2), 3);
        lost(x, 5, 1, 4);
        due(x.undo(), 4);
        lost(x, 5, 3, 8);
    }

    @Sentence(in = "Terms", says = "how likely THE LEAST is as great as it is.")
    static void aLeastOfZeroStaysWhateverIsLost() {
        EvenErrors line = of("1;1;(0,0)(1,1)(2,2)(3,3)");
        EvenErrors few = of("1;1;(0,0)(1,9)");
        EvenErrors none = new EvenErrors();
        for (int c = 0; c <= 10; c++) {
            lost(line, c, 1, 1);
            lost(few, c, 1, 1);
            lost(none, c, 1, 1);
        }
    }

    // ---- promises 11 to 17

    @Sentence(in = "Promise 11", says = "BAD; NONE: a POLE.")
    static void bestIsBadBeyond0To7() {
        EvenErrors x = ofPoints(4, 1);
        due(x.best(-1), BAD);
        due(x.best(8), BAD);
        due(x.best(LEAST_INT), BAD);
        due(x.best(MOST_INT), BAD);
        due(new EvenErrors().best(8), BAD);
    }

    @Sentence(in = "Promise 11", says = "NONE: a POLE.")
    static void bestIsNoneJustByAPole() {
        EvenErrors x = new EvenErrors();
        x.under(0, 0);
        least(x, 0, 1);
        due(x.best(5), 0);
        due(x.point(0, 0), 1);
        for (int what = 0; what <= 7; what++) {
            due(x.best(what), NONE);
        }
        due(x.out(0), 0);
        least(x, 0, 1);
    }

    @Sentence(in = "Promise 11", says = "3 those of them at which THE ERROR is above 0 (a SET)")
    static void errorsBelowZeroAreReachedAndNotAbove() {
        EvenErrors x = of("0;-1;(0,-5)(1,5)(2,5)(3,4)");
        due(x.best(2), bits(0, 1, 2));
        due(x.best(3), bits(1, 2));
        // Q is -1 at 0 and 1 at 1: 1 more than -1 and 3 less 1.
        due(of("0;-1,2;(0,1)(1,3)").best(3), bits(0, 1));
        due(of("0;-1,2;(0,-1)(1,-3)").best(3), 0);
        due(of("1;1;(0,0)(1,1)(2,2)").best(3), 0);
        due(of("1;1;(0,0)(1,1)").best(3), 0);
    }

    @Sentence(in = "Promise 11", says = "7 the last REFERENCE (a SET; 0 without a STEP).")
    static void theLastReferenceIsNoneWithoutAStep() {
        EvenErrors x = of("1;1;(0,0)(1,3)");
        due(x.best(7), 0);
        due(x.point(2, 0), 3);
        due(x.best(7), bits(0, 1, 2));
        due(x.point(3, 9), 4);
        due(x.best(7), bits(1, 2, 3));
        due(x.step(0, 0), bits(0, 1, 2));
        due(x.degree(3), 1);
        due(x.best(7), 0);
    }

    @Sentence(in = "Promise 12", says = "The number of x to the j (0 .. 3) in P of THE BEST FIT, a fraction (what 0 .. 2). BAD; NONE.")
    static void partIsBadBeyondJAndWhat() {
        EvenErrors x = ofPoints(8, 3);
        for (int beyond : new int[] {-1, 4, LEAST_INT, MOST_INT}) {
            due(x.part(beyond, 0), BAD);
        }
        for (int beyond : BEYOND_SIGN) {
            due(x.part(3, beyond), BAD);
        }
        due(x.part(3, 1) > 0 ? 1 : 0, 1);
    }

    @Sentence(in = "Promise 12", says = "The number of x to the j (0 .. 3) in P of THE BEST FIT, a fraction (what 0 .. 2).")
    static void partsOfACubicAreFractionsUpToThe3rd() {
        // P is x less 1, x less 2 and x less 3, multiplied, by 2.
        EvenErrors x = of("3;1;(0,-3)(1,0)(2,0)(3,0)");
        part(x, 0, 3, 1, 2);
        part(x, 1, 11, 2, 1);
        part(x, 2, 3, 1, 2);
        part(x, 3, 1, 2, 1);
        // The same, over 2, and y by turns 1 more and 1 less: that is level.
        EvenErrors level = of("3;2;(0,-2)(1,-1)(2,1)(3,-1)(4,4)");
        least(level, 1, 1);
        part(level, 0, 6, 1, 2);
        part(level, 1, 11, 1, 1);
        part(level, 2, 6, 1, 2);
        part(level, 3, 1, 1, 1);
        // x x x by 2: the 3rd alone is no whole number.
        EvenErrors half = of("3;1;(-4,-32)(-2,-4)(0,0)(2,4)(4,32)");
        part(half, 0, 0, 1, 0);
        part(half, 1, 0, 1, 0);
        part(half, 2, 0, 1, 0);
        part(half, 3, 1, 2, 1);
    }

    @Sentence(in = "Promise 12", says = "BAD; NONE.")
    static void partIsNoneByAPoleAndByFewPoints() {
        EvenErrors x = of("1;0,1;(1,1)(2,2)");
        part(x, 1, 3, 1, 1);
        part(x, 0, 2, 1, 2);
        due(x.out(2), 1);
        due(x.part(0, 0), NONE);
        due(x.part(3, 0), NONE);
        due(x.point(0, 2), 2);
        due(x.part(0, 0), NONE);
    }

    @Sentence(in = "Promise 13", says = "BAD; NONE: Q is 0 there, too.")
    static void valueIsBadBeyondXAndWhat() {
        EvenErrors x = of("1;1;(0,0)(1,1)");
        value(x, -6, 6, 1, 2);
        value(x, 6, 6, 1, 1);
        for (int beyond : BEYOND_X) {
            due(x.value(beyond, 0), BAD);
        }
        for (int beyond : BEYOND_SIGN) {
            due(x.value(0, beyond), BAD);
        }
    }

    @Sentence(in = "Promise 13", says = "NONE: Q is 0 there, too.")
    static void valueIsNoneWhereQIsZeroAndAnsweredElsewhere() {
        EvenErrors x = of("1;-1,0,1;(0,3)(2,1)");
        // P is -3 and 3 x.
        for (int what = 0; what <= 2; what++) {
            due(x.value(1, what), NONE);
            due(x.value(-1, what), NONE);
        }
        value(x, 0, 3, 1, 1);
        value(x, 3, 3, 4, 1);
        value(x, -2, 3, 1, 2);
        due(x.out(2), 1);
        due(x.value(0, 0), NONE);
        due(x.point(1, 1), 2);
        due(x.value(0, 0), NONE);
    }

    @Sentence(in = "Promise 14", says = "BAD; NONE: also, there is none.")
    static void errorIsBadBeyondXAndWhat() {
        EvenErrors x = of("0;1;(-6,0)(6,4)");
        error(x, -6, 2, 1, 2);
        error(x, 6, 2, 1, 1);
        for (int beyond : BEYOND_X) {
            due(x.error(beyond, 0), BAD);
        }
        for (int beyond : BEYOND_SIGN) {
            due(x.error(6, beyond), BAD);
        }
    }

    @Sentence(in = "Promise 14", says = "NONE: also, there is none.")
    static void errorIsNoneWhereNoPointIsOrNoFitAlone() {
        EvenErrors x = of("1;0,1;(1,0)(2,4)(4,4)");
        due(x.error(3, 0), NONE);
        due(x.error(6, 2), NONE);
        due(x.error(1, 0) >= 0 ? 1 : 0, 1);
        due(x.out(4), 2);
        due(x.error(4, 0), NONE);
        error(x, 1, 0, 1, 0);
        due(x.out(2), 1);
        due(x.error(1, 0), NONE);
        due(x.point(0, 1), 2);
        due(x.error(1, 0), NONE);
    }

    @Sentence(in = "Promise 15", says = "BAD: also k below 0; NONE: not so many, too.")
    static void stepIsBadBelow0AndBeyondWhat() {
        EvenErrors x = of("1;1;(0,0)(1,3)(2,0)(3,9)");
        due(x.step(-1, 0), BAD);
        due(x.step(LEAST_INT, 0), BAD);
        for (int what : new int[] {-1, 5, LEAST_INT, MOST_INT}) {
            due(x.step(0, what), BAD);
            due(x.step(9, what), BAD);
        }
        step(x, 0, bits(0, 1, 2), 3, 2);
        exchanged(x, 0, 3, 0);
    }

    @Sentence(in = "Promise 15", says = "NONE: not so many, too.")
    static void stepIsNoneFromHowManyThereAreOn() {
        EvenErrors x = of("1;1;(0,0)(1,3)(2,0)(3,9)");
        step(x, 1, bits(1, 2, 3), 3, 1);
        for (int what = 0; what <= 4; what++) {
            due(x.step(2, what), NONE);
            due(x.step(70, what), NONE);
            due(x.step(MOST_INT, what), NONE);
        }
    }

    @Sentence(in = "Promise 15", says = "3 x and 6 together of the POINT that comes in (NONE: the last STEP), 4 of that which goes out (NONE).")
    static void inTheLastStepNoneComesInOrGoesOut() {
        EvenErrors x = of("0;1;(-6,0)(-5,0)(6,9)");
        due(x.step(0, 3), 12);
        due(x.step(0, 4), 0);
        step(x, 1, bits(-5, 6), 9, 2);
        lastStep(x, 1);
    }

    @Sentence(in = "Promise 16", says = "BAD: not 0 .. 8191;")
    static void levelIsBadBeyond0To8191() {
        EvenErrors x = of("0;1;(-6,0)(6,4)");
        level(x, 4097, 2, 1, 2);
        due(x.level(8191, 0), NOT);
        due(x.level(0, 0), NOT);
        due(x.level(8192, 0), BAD);
        due(x.level(8192 + 4097, 0), BAD);
        due(x.level(-1, 0), BAD);
        due(x.level(LEAST_INT, 0), BAD);
        due(x.level(MOST_INT, 0), BAD);
        for (int beyond : BEYOND_SIGN) {
            due(x.level(4097, beyond), BAD);
        }
    }

    @Sentence(in = "Promise 16", says = "NONE: a POLE; NOT: it's no REFERENCE.")
    static void levelIsNoneByAPoleThatIsNotInTheSetToo() {
        EvenErrors x = of("0;0,1;(1,0)(2,4)(0,3)");
        due(x.level(bits(1, 2), 0), NONE);
        due(x.level(bits(0, 1), 0), NONE);
        due(x.level(0, 0), NONE);
        due(x.out(0), 2);
        due(x.level(bits(1, 2), 0) > 0 ? 1 : 0, 1);
    }

    @Sentence(in = "Promise 16", says = "NOT: it's no REFERENCE.")
    static void levelIsNotOfFewerOrMoreOrFixedOrNoPoints() {
        EvenErrors x = of("1;1;(0,0)(1,3)(2,0)(3,9)(4,1)!");
        due(x.level(bits(0, 3), 0) >= 0 ? 1 : 0, 1);
        due(x.level(bits(0), 0), NOT);
        due(x.level(bits(0, 1, 2), 0), NOT);
        due(x.level(bits(0, 4), 0), NOT);
        due(x.level(bits(0, 1, 4), 0), NOT);
        due(x.level(bits(0, 5), 0), NOT);
        due(x.level(bits(5, 6), 0), NOT);
        due(x.level(0, 0), NOT);
        due(x.fix(4), 0);
        due(x.level(bits(0, 4), 0), NOT);
        due(x.level(bits(0, 1, 4), 0) >= 0 ? 1 : 0, 1);
    }

    @Sentence(in = "Promise 16", says = "2 the LEAN at its first POINT by x (1 up, 2 down, 0: h is 0).")
    static void theLeanIs0WhereHIs0() {
        EvenErrors x = of("1;1;(0,0)(1,1)(2,2)(3,4)(4,5)");
        level(x, bits(0, 1, 2), 0, 1, 0);
        level(x, bits(1, 2, 3), 1, 4, 1);
        level(x, bits(2, 3, 4), 1, 4, 2);
    }

    @Sentence(in = "Promise 17", says = "LOST: above (what 0), below (1). BAD; NONE: a POLE.")
    static void lostIsBadBeyondCAndWhat() {
        EvenErrors x = of("0;1;(-6,0)(6,4)");
        lost(x, 0, 1, 1);
        lost(x, 10, 0, 1);
        for (int beyond : new int[] {-1, 11, LEAST_INT, MOST_INT}) {
            due(x.lost(beyond, 0), BAD);
        }
        for (int beyond : new int[] {-1, 2, LEAST_INT, MOST_INT}) {
            due(x.lost(0, beyond), BAD);
        }
    }

    @Sentence(in = "Promise 17", says = "NONE: a POLE.")
    static void lostIsNoneJustByAPole() {
        EvenErrors x = of("1;0,1;(1,1)(2,2)(0,1)");
        due(x.lost(0, 0), NONE);
        due(x.lost(10, 1), NONE);
        due(x.out(0), 2);
        lost(x, 4, 1, 1);
        due(x.out(1), 1);
        due(x.out(2), 0);
        lost(x, 4, 1, 1);
    }

    @Sentence(in = "Promise 17", says = "LOST: above (what 0), below (1).")
    static void lostOfEightFreePointsIsByUpTo10ToThe8() {
        EvenErrors last = of("0;1;(-6,1)(-5,1)(-4,1)(-3,1)(-2,1)(-1,1)(0,1)(1,0)");
        lost(last, 9, 5217031, 100000000);
        lost(last, 1, 89999991, 100000000);
        EvenErrors x = of("0;1;(-6,0)(-5,1)(-4,1)(-3,1)(-2,1)(-1,1)(0,1)(1,1)");
        // -6 has to be left and one of the seven.
        lost(x, 9, 5217031, 100000000);
        lost(x, 1, 89999991, 100000000);
    }
}
