/** The sentences that name no boundary case, each by an example that was reckoned by hand. */
final class PlainSentences extends Boundaries {
    /** THE BEST FIT is 3 x less 3, THE LEAST 3: at 0, 1 and 3 above it, at 2 below. */
    private static EvenErrors ofFour() {
        return of("1;1;(0,0)(1,3)(2,0)(3,9)");
    }

    // ---- Terms

    @Sentence(in = "Terms", says = "Answers below 0, of several BAD ahead of all others, then the first that a call names: "
        + "BAD -1 (a number is not as told, there is no such thing), NOT -2 (as told), FULL -3, NONE -4 (as told), "
        + "CAST -12 (of SHEETS another LANE); what the machine finds: NULL -11, INDEX -13, SIZE -14 (NULL, CAST,")
    static void answersBelowZeroAreTheNumbersOfTheFace() {
        due(EvenErrors.BAD, -1);
        due(EvenErrors.NOT, -2);
        due(EvenErrors.FULL, -3);
        due(EvenErrors.NONE, -4);
        due(EvenErrors.NULL, -11);
        due(EvenErrors.CAST, -12);
        due(EvenErrors.INDEX, -13);
        due(EvenErrors.SIZE, -14);
        EvenErrors x = new EvenErrors();
        due(x.point(7, 0), -1);
        due(x.count(7), -1);
        due(x.out(6), -4);
        for (int k = 0; k < 8; k++) {
            due(x.point(k - 6, 1), k + 1);
        }
        due(x.point(1, 1), -2);
        due(x.point(2, 1), -3);
        due(x.drop(0), -11);
        due(x.sheet(0, 0, 1), 1);
        due(x.item(0, 1, 0, 5), -12);
        due(x.item(0, 0, 1, 5), -13);
        due(x.sheet(0, 0, -1), -14);
    }

    @Sentence(in = "Terms", says = "POINTS: at most 8 (none at first), no two of one x: x -6 .. 6, y -99 .. 99, both whole.")
    static void pointsAreWhatIsTold() {
        EvenErrors x = new EvenErrors();
        due(x.count(1), 0);
        due(x.point(4, -7), 1);
        due(x.point(-5, 98), 2);
        due(x.count(1), bits(-5, 4));
        due(x.told(4, 0), 92);
        due(x.told(-5, 0), 197);
    }

    @Sentence(in = "Terms", says = "the others are FREE. BENEATH: Q of x is q0 and q1 x and q2 x x, together, each of -3 .. 3")
    static void beneathIsASumOfThree() {
        EvenErrors x = of("1;-3,2,1;(-6,1)(-3,1)(-2,1)(0,1)(1,1)!(2,1)(5,1)(6,1)");
        due(x.told(-6, 3), 21);
        due(x.told(-3, 3), 0);
        due(x.told(-2, 3), 3);
        due(x.told(0, 3), 3);
        due(x.told(1, 3), 0);
        due(x.told(2, 3), 5);
        due(x.told(5, 3), 32);
        due(x.told(6, 3), 45);
        due(x.count(3), bits(-3, 1));
        due(x.count(2), bits(1));
        due(x.told(2, 1), 0);
    }

    @Sentence(in = "Terms", says = "A FIT is P of x by Q of x: P a polynomial of degree d at most")
    static void aFitIsPByQ() {
        // Q is 2 and x: P is 2 at 0 and 6 at 1, so it is 2 and 4 x.
        EvenErrors x = of("1;2,1;(0,1)(1,2)");
        part(x, 0, 2, 1, 1);
        part(x, 1, 4, 1, 1);
        value(x, 2, 5, 2, 1);
        value(x, -1, 2, 1, 2);
        value(x, 4, 3, 1, 1);
        value(x, -6, 11, 2, 1);
    }

    @Sentence(in = "Terms", says = "THE BEST FIT is that of which the greatest ERROR, without its sign, at FREE POINTS is the least;")
    static void noOtherLineOfQuartersIsAsNear() {
        EvenErrors x = ofFour();
        int[] ys = {0, 3, 0, 9};
        int asNear = 0;
        for (int a = -80; a <= 80; a++) {
            for (int b = -80; b <= 80; b++) {
                int greatest = 0;
                for (int k = 0; k < ys.length; k++) {
                    greatest = Math.max(greatest, Math.abs(4 * ys[k] - a - b * k));
                }
                if (greatest <= 12) {
                    asNear++;
                    due(a, -12);
                    due(b, 12);
                    due(greatest, 12);
                }
            }
        }
        due(asNear, 1);
        least(x, 3, 1);
        part(x, 0, 3, 1, 2);
        part(x, 1, 3, 1, 1);
    }

    @Sentence(in = "Terms", says = "A FIT is LEVEL on a REFERENCE, if all ERRORS there are h or -h, one h of 0 or more,")
    static void aLevelFitOverABeneathAndThroughAFixedPoint() {
        // P is 2 and b x, over 1 and x: (1 less 2 b) by 3 is (2 and b) by 2, so b is -4 by 7.
        EvenErrors x = of("1;1,1;(0,2)!(1,0)(2,1)");
        level(x, bits(1, 2), 5, 7, 2);
        least(x, 5, 7);
        error(x, 1, 5, 7, 2);
        error(x, 2, 5, 7, 1);
        error(x, 0, 0, 1, 0);
        part(x, 0, 2, 1, 1);
        part(x, 1, 4, 7, 2);
        value(x, 3, 1, 14, 1);
    }

    @Sentence(in = "Terms", says = "STEP: of its LEVEL FIT the FREE POINT with the greatest ERROR without its sign (of like ones the "
        + "least x) is looked for; if that is h, it's THE BEST FIT, it was the last STEP. Else this POINT comes in: in place of")
    static void thePointThatIsWorstComesInStepByStep() {
        // FITS are 1, then -7 by 2, then -1.
        EvenErrors x = of("0;1;(0,0)(1,2)(2,7)(3,-9)");
        step(x, 0, bits(0, 1), 1, 1);
        exchanged(x, 0, 3, 0);
        step(x, 1, bits(1, 3), 11, 2);
        exchanged(x, 1, 2, 1);
        step(x, 2, bits(2, 3), 8, 1);
        lastStep(x, 2);
        least(x, 8, 1);
        part(x, 0, 1, 1, 2);
    }

    @Sentence(in = "Terms", says = "TURNS: how many of them can be taken, by x, so that LEANS of each two that follow each other")
    static void turnsAreFewerWhereLikeLeansFollowEachOther() {
        EvenErrors x = of("0;1;(0,1)(1,1)(2,-1)(3,-1)(4,1)");
        least(x, 1, 1);
        due(x.best(2), bits(0, 1, 2, 3, 4));
        due(x.best(3), bits(0, 1, 4));
        due(x.best(4), 3);
    }

    @Sentence(in = "Terms", says = "DRIFT by a seed: THE DRAW is a number of 31 bits (1 at first); for each turn it becomes the lowest")
    static void tenTurnsFromTheFirstDraw() {
        // v is 16838, 5758, 10113, 17515, 31051, 5627, 23010, 7419, 16212, 4086.
        int[] xs = {-3, 6, 6, -2, 1, 5, -6, 3, -5, -2};
        int[] ys = {-42, 61, -64, 0, 50, 53, -54, -34, -81, -43};
        int[] many = {1, 2, 2, 3, 4, 5, 6, 7, 8, 8};
        EvenErrors x = new EvenErrors();
        for (int k = 0; k < xs.length; k++) {
            due(x.drift(1), many[k]);
            due(x.told(xs[k], 0), ys[k] + 99);
        }
        EvenErrors atOnce = new EvenErrors();
        due(atOnce.drift(10), 8);
        due(atOnce.count(1), bits(-6, -5, -3, -2, 1, 3, 5, 6));
        due(atOnce.told(-2, 0), 56);
    }

    // ---- promises

    @Sentence(in = "Promise 7", says = "1 whether it is FIXED (1, 0), 2")
    static void toldSaysWhetherAPointIsFixed() {
        EvenErrors x = of("1;1;(0,3)(4,5)!");
        due(x.told(0, 1), 0);
        due(x.told(4, 1), 1);
        due(x.fix(4), 0);
        due(x.fix(0), 1);
        due(x.told(0, 1), 1);
        due(x.told(4, 1), 0);
    }

    @Sentence(in = "Promise 8", says = "0 THE DEGREE, 1 POINTS (a SET)")
    static void countSaysTheDegreeAndThePoints() {
        EvenErrors x = of("2;1;(-6,3)(4,5)!");
        due(x.count(0), 2);
        due(x.count(1), 1025);
        due(x.count(2), 1024);
        due(x.degree(3), 2);
        due(x.count(0), 3);
    }

    @Sentence(in = "Promise 11", says = "0, 1 THE LEAST (a fraction), 2 REACHED (a SET), 3 those of them")
    static void bestSaysTheLeastAndWhereItIsReached() {
        EvenErrors x = ofFour();
        least(x, 3, 1);
        due(x.best(2), bits(0, 1, 2, 3));
        due(x.best(3), bits(0, 1, 3));
        due(x.out(3), 3);
        least(x, 3, 2);
        due(x.best(2), bits(0, 1, 2));
        due(x.best(3), bits(1));
    }

    @Sentence(in = "Promise 11", says = "4 TURNS, 5 whether there is one BEST FIT alone (1, 0), 6 STEPS, 7")
    static void bestSaysTurnsAndSteps() {
        EvenErrors x = ofFour();
        due(x.best(4), 3);
        due(x.best(5), 1);
        due(x.best(6), 2);
        due(x.best(7), bits(1, 2, 3));
        due(x.out(0), 3);
        due(x.best(6), 1);
        due(x.degree(3), 1);
        due(x.best(5), 0);
        due(x.best(6), 0);
    }

    @Sentence(in = "Promise 13", says = "The value of THE BEST FIT at x, a fraction. BAD;")
    static void valuesOfALine() {
        EvenErrors x = ofFour();
        for (int at = -6; at <= 6; at++) {
            int due = 3 * at - 3;
            value(x, at, Math.abs(due), 1, due == 0 ? 0 : due > 0 ? 1 : 2);
        }
    }

    @Sentence(in = "Promise 14", says = "THE ERROR of THE BEST FIT at the POINT of x, a fraction. BAD;")
    static void errorsOfALine() {
        EvenErrors x = ofFour();
        error(x, 0, 3, 1, 1);
        error(x, 1, 3, 1, 1);
        error(x, 2, 3, 1, 2);
        error(x, 3, 3, 1, 1);
        due(x.point(-1, -5), 5);
        error(x, -1, 1, 1, 1);
        due(x.out(3), 4);
        // Level at -1, 1 and 2: 5 x less 3, by 3.
        error(x, -1, 7, 3, 2);
        error(x, 0, 1, 1, 1);
        error(x, 1, 7, 3, 1);
        error(x, 2, 7, 3, 2);
    }

    @Sentence(in = "Promise 15", says = "Of STEP k (0 on): 0 its REFERENCE (a SET), 1 above, 2 below of h, 3 x and 6 together")
    static void stepsOfALine() {
        EvenErrors x = ofFour();
        step(x, 0, bits(0, 1, 2), 3, 2);
        exchanged(x, 0, 3, 0);
        step(x, 1, bits(1, 2, 3), 3, 1);
        lastStep(x, 1);
    }

    @Sentence(in = "Promise 16", says = "Of a SET: 0 above, 1 below of h, the FIT being LEVEL on it, 2 the LEAN at its first POINT by x")
    static void levelOfEachReferenceOfALine() {
        EvenErrors x = ofFour();
        level(x, bits(0, 1, 2), 3, 2, 2);
        level(x, bits(1, 2, 3), 3, 1, 1);
        level(x, bits(0, 1, 3), 0, 1, 0);
        level(x, bits(0, 2, 3), 3, 1, 1);
    }

    @Sentence(in = "Promise 27", says = "Item i of a SHEET, taken as a row of a LANE, becomes v, its lowest bits: 1.")
    static void itemsAreWhatTheyBecame() {
        EvenErrors x = new EvenErrors();
        for (int lane = 0; lane <= 3; lane++) {
            due(x.sheet(0, lane, 6), 6);
            fill(x, 0, lane, 0, -6, 99, 5, -99, 0, 7);
            pairIs(x, 0, lane, 0, -6, 99);
            pairIs(x, 0, lane, 2, 5, -99);
            pairIs(x, 0, lane, 4, 0, 7);
        }
    }
}
