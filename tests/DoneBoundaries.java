/** Boundary cases of UNDONE and DRIFT, and of promises 18 to 22. */
final class DoneBoundaries extends Boundaries {
    /** THE DRAW behind 1. */
    private static final int AFTER_1 = 1103527590;

    private static EvenErrors ofEight() {
        return of("1;1;(-6,1)(-5,1)(-4,1)(0,1)(1,1)(2,1)(5,1)(6,1)");
    }

    /** A DRIFT of one turn behind a seed, on an object with no POINTS, tells x and y. */
    private static void turn(int seed, int draw, int at, int y) {
        EvenErrors x = new EvenErrors();
        x.seed(seed);
        due(x.drift(1), 1);
        due(x.count(1), bits(at));
        due(x.told(at, 0), y + 99);
        due(x.told(at, 1), 0);
        drawIs(x, draw);
    }

    // ---- UNDONE

    @Sentence(in = "Terms", says = "UNDONE: the latest of a POINT told, out, FIXED or FREE,")
    static void aPointToldOrOutIsUndone() {
        EvenErrors x = of("1;1;(0,5)!(1,2)");
        due(x.point(2, 7), 3);
        due(x.undo(), 1);
        due(x.count(1), bits(0, 1));
        due(x.point(1, 3), 2);
        due(x.undo(), 1);
        due(x.told(1, 0), 101);
        due(x.out(0), 1);
        due(x.undo(), 1);
        due(x.count(1), bits(0, 1));
        due(x.count(2), bits(0));
        due(x.told(0, 0), 104);
    }

    @Sentence(in = "Terms", says = "UNDONE: the latest of a POINT told, out, FIXED or FREE,")
    static void fixedAndFreeAreUndone() {
        EvenErrors x = of("1;1;(0,5)!(1,2)");
        due(x.fix(0), 0);
        due(x.fix(1), 1);
        due(x.undo(), 2);
        due(x.count(2), 0);
        due(x.undo(), 1);
        due(x.count(2), bits(0));
    }

    @Sentence(in = "Terms", says = "of THE DEGREE, BENEATH told, of a TEXT, a turn of a DRIFT, is as it had not been")
    static void theDegreeAndBeneathAreUndone() {
        EvenErrors x = new EvenErrors();
        due(x.degree(3), 1);
        due(x.under(0, -3), 4);
        due(x.under(1, 2), 3);
        due(x.under(2, 1), 3);
        due(x.undo(), 3);
        due(x.under(2, 0), NOT);
        due(x.undo(), 2);
        due(x.under(1, 0), NOT);
        due(x.undo(), 1);
        due(x.under(0, 1), NOT);
        due(x.count(0), 3);
        due(x.undo(), 0);
        isAsNew(x);
    }

    @Sentence(in = "Terms", says = "of a TEXT, a turn of a DRIFT, is as it had not been")
    static void aTextIsUndoneAsOne() {
        EvenErrors x = of("2;1,2,3;(0,5)!(1,2)");
        due(read(x, "3;-1;(4,4)!(5,5)!(6,6)!"), 3);
        due(x.count(6), 2);
        due(x.undo(), 1);
        due(x.count(0), 2);
        due(x.count(1), bits(0, 1));
        due(x.count(2), bits(0));
        due(x.told(1, 0), 101);
        due(x.told(1, 3), 6);
        due(x.undo(), 0);
        isAsNew(x);
    }

    @Sentence(in = "Terms", says = "of a TEXT, a turn of a DRIFT, is as it had not been")
    static void aTextThatChangesNothingMayBeUndone() {
        EvenErrors x = of("1;1;(0,5)!(1,2)");
        due(read(x, "1;1;(0,5)!(1,2)"), 2);
        due(x.count(6), 2);
        due(x.undo(), 1);
        due(x.count(1), bits(0, 1));
        due(x.undo(), 0);
        due(x.count(1), 0);
    }

    @Sentence(in = "Terms", says = "is as it had not been")
    static void theFitIsAsAheadOfWhatIsUndone() {
        EvenErrors x = of("1;1;(0,0)(1,3)(2,0)(3,9)(5,1)");
        long above = x.best(0);
        long below = x.best(1);
        long steps = x.best(6);
        for (int kind = 0; kind < 6; kind++) {
            if (kind == 0) {
                due(x.point(4, 99), 6);
            } else if (kind == 1) {
                due(x.out(3), 4);
            } else if (kind == 2) {
                due(x.fix(1), 1);
            } else if (kind == 3) {
                due(x.degree(3), 1);
            } else if (kind == 4) {
                due(x.under(0, 0), 4);
            } else {
                due(read(x, "0;2;(1,1)(2,2)"), 2);
            }
            due(x.best(0) == above && x.best(1) == below ? 1 : 0, 0);
            due(x.undo(), 1);
            least(x, above, below);
            due(x.best(6), steps);
        }
    }

    @Sentence(in = "Terms", says = "a turn of a DRIFT, is as it had not been")
    static void eachTurnOfADriftIsUndoneByItself() {
        EvenErrors x = new EvenErrors();
        due(x.drift(3), 2);
        due(x.count(6), 3);
        due(x.undo(), 2);
        due(x.told(6, 0), 160);
        due(x.undo(), 1);
        due(x.count(1), bits(-3));
        drawIs(x, AFTER_1);
        due(x.undo(), 0);
        isAsNew(x);
    }

    @Sentence(in = "Terms", says = "(6 are known, older ones lost)")
    static void ofSevenTheOldestIsLost() {
        EvenErrors x = new EvenErrors();
        for (int k = 0; k < 6; k++) {
            due(x.point(0, k), 1);
        }
        due(x.count(6), 6);
        due(x.point(0, 6), 1);
        due(x.count(6), 6);
        for (int k = 5; k >= 0; k--) {
            due(x.undo(), k);
            due(x.told(0, 0), 99 + k);
        }
        due(x.undo(), NONE);
        due(x.told(0, 0), 99);
    }

    @Sentence(in = "Terms", says = "(6 are known, older ones lost)")
    static void sixAreUndoneDownToANewObject() {
        EvenErrors x = new EvenErrors();
        for (int k = 0; k < 6; k++) {
            due(x.point(k, 9), k + 1);
        }
        for (int k = 5; k >= 0; k--) {
            due(x.undo(), k);
        }
        isAsNew(x);
    }

    @Sentence(in = "Terms", says = "(6 are known, older ones lost)")
    static void behindAnUndoSixAreKnownAgain() {
        EvenErrors x = new EvenErrors();
        for (int k = 0; k < 9; k++) {
            due(x.point(0, k), 1);
        }
        due(x.undo(), 5);
        due(x.undo(), 4);
        due(x.undo(), 3);
        for (int k = 20; k < 24; k++) {
            due(x.point(0, k), 1);
            due(x.count(6), Math.min(6, k - 16));
        }
        int[] ys = {22, 21, 20, 5, 4, 3};
        for (int k = 0; k < 6; k++) {
            due(x.undo(), 5 - k);
            due(x.told(0, 0), 99 + ys[k]);
        }
        due(x.undo(), NONE);
    }

    @Sentence(in = "Terms", says = "POINTS, THE DEGREE, BENEATH, THE DRAW are as ahead of it, whatever was told since.")
    static void theDrawIsAsAheadOfWhatIsUndone() {
        EvenErrors x = new EvenErrors();
        x.seed(5);
        due(x.point(0, 1), 1);
        x.seed(6);
        due(x.fix(0), 1);
        x.seed(7);
        due(x.undo(), 1);
        drawIs(x, 6);
        x.seed(8);
        due(x.undo(), 0);
        drawIs(x, 5);
        due(x.undo(), NONE);
        drawIs(x, 5);
    }

    @Sentence(in = "Terms", says = "THE DRAW are as ahead of it, whatever was told since.")
    static void aSeedIsNotUndoneByItself() {
        EvenErrors x = new EvenErrors();
        due(x.seed(9), 1);
        due(x.count(6), 0);
        due(x.undo(), NONE);
        drawIs(x, 9);
        due(x.drift(1), 1);
        due(x.undo(), 0);
        drawIs(x, 9);
    }

    // ---- DRIFT

    @Sentence(in = "Terms", says = "THE DRAW is a number of 31 bits (1 at first);")
    static void theDrawIs1AtFirstAndOf31Bits() {
        EvenErrors x = new EvenErrors();
        due(x.seed(MOST_INT), 1);
        due(x.seed(0), MOST_INT);
        due(x.seed(1), 0);
        turn(1, AFTER_1, -3, -42);
    }

    @Sentence(in = "Terms", says = "it becomes the lowest 31 bits of itself times 1103515245 and 12345 more")
    static void theDrawKeepsItsLowest31Bits() {
        turn(0, 12345, -6, -99);
        // All bits set, times 1103515245, is by 2 to the 31 the same as 1103515245 below 0.
        turn(MOST_INT, (int) ((1L << 31) + 12345 - 1103515245), -2, -99);
        turn(230538014, MOST_INT, 1, -42);
        turn(2088216195, 0, -6, -99);
    }

    @Sentence(in = "Terms", says = "v is it by 65536 (cut): the POINT of x v left over by 13, less 6,")
    static void vIsCutAndXIsOfMinus6To6() {
        turn(2032319262, 65535, -6, -99);
        turn(1742513795, 65536, -5, -99);
        // v is 3171 and 3172, by 13 they leave 12 and 0.
        turn(1082566275, 3171 * 65536, 6, 99);
        turn(1026669342, 3171 * 65536 + 65535, 6, 99);
        turn(736863875, 3172 * 65536, -6, 99);
    }

    @Sentence(in = "Terms", says = "gets the y that is v by 16 (cut) left over by 199, less 99;")
    static void vBy16IsCutAndYIsOfMinus99To99() {
        // v is 15, 16, 3183 and 3184: by 16 it is 0, 1, 198 and 199.
        turn(seedAheadOf(15 * 65536), 15 * 65536, -4, -99);
        turn(seedAheadOf(16 * 65536), 16 * 65536, -3, -98);
        turn(seedAheadOf(3183 * 65536), 3183 * 65536, 5, 99);
        turn(seedAheadOf(3184 * 65536), 3184 * 65536, 6, -99);
    }

    /** By the number that 1103515245 times is 1, by 2 to the 31: its powers lead there. */
    private static int seedAheadOf(int draw) {
        long inverse = 1;
        for (int k = 0; k < 31; k++) {
            inverse = inverse * (2 - 1103515245L * inverse);
        }
        return (int) ((draw - 12345L) * inverse & 0x7fffffffL);
    }

    @Sentence(in = "Terms", says = "if there is none, it's a new one, FREE; but if 8 are, none comes.")
    static void withEightNoPointComesButYsChangeAndTheDrawGoesOn() {
        EvenErrors x = ofEight();
        due(x.drift(1), 8);
        due(x.count(1), bits(-6, -5, -4, 0, 1, 2, 5, 6));
        drawIs(x, AFTER_1);
        due(x.count(6), 2);
        due(x.drift(1), 8);
        due(x.told(6, 0), 160);
        due(x.undo(), 2);
        due(x.told(6, 0), 100);
        // With 7 one comes.
        due(x.out(6), 7);
        x.seed(1);
        due(x.drift(1), 8);
        due(x.told(-3, 0), 57);
        due(x.told(-3, 1), 0);
    }

    @Sentence(in = "Terms", says = "if there is none, it's a new one, FREE; but if 8 are, none comes.")
    static void aPointThatIsDrawnAgainKeepsBeingFixed() {
        EvenErrors x = of("1;1;(-3,5)!(1,2)");
        due(x.drift(1), 2);
        due(x.told(-3, 0), 57);
        due(x.told(-3, 1), 1);
        due(x.count(2), bits(-3));
    }

    // ---- promise 18

    @Sentence(in = "Promise 18", says = "A DRIFT of n turns (1 .. 40;")
    static void aDriftIsOf1To40Turns() {
        EvenErrors x = new EvenErrors();
        due(x.drift(1), 1);
        drawIs(x, AFTER_1);
        x.seed(1);
        due(x.drift(40), 8);
        int draw = 1;
        for (int k = 0; k < 40; k++) {
            draw = draw * 1103515245 + 12345 & MOST_INT;
        }
        drawIs(x, draw);
        due(x.count(6), 6);
    }

    @Sentence(in = "Promise 18", says = "each may be UNDONE, one that changes nothing, too): how many POINTS then.")
    static void aTurnThatChangesNoPointMayBeUndone() {
        EvenErrors x = new EvenErrors();
        due(x.point(-3, -42), 1);
        due(x.drift(1), 1);
        due(x.count(6), 2);
        drawIs(x, AFTER_1);
        due(x.undo(), 1);
        drawIs(x, 1);
        due(x.told(-3, 0), 57);
        EvenErrors full = ofEight();
        due(full.drift(1), 8);
        due(full.count(6), 2);
        due(full.undo(), 1);
        drawIs(full, 1);
    }

    @Sentence(in = "Promise 18", says = "each may be UNDONE, one that changes nothing, too): how many POINTS then.")
    static void ofMoreThanSixTurnsSixMayBeUndone() {
        EvenErrors x = new EvenErrors();
        due(x.point(0, 0), 1);
        due(x.drift(7), 7);
        due(x.count(6), 6);
        for (int k = 5; k >= 0; k--) {
            due(x.undo(), k);
        }
        drawIs(x, AFTER_1);
        due(x.count(1), bits(-3, 0));
        due(x.undo(), NONE);
    }

    @Sentence(in = "Promise 18", says = "BAD.")
    static void driftIsBadBeyond1To40() {
        EvenErrors x = new EvenErrors();
        due(x.drift(0), BAD);
        due(x.drift(-1), BAD);
        due(x.drift(41), BAD);
        due(x.drift(LEAST_INT), BAD);
        due(x.drift(MOST_INT), BAD);
        isAsNew(x);
    }

    // ---- promises 19 and 20

    @Sentence(in = "Promise 19", says = "UNDONE: how many more may be. NONE: none is known.")
    static void undoAnswersHowManyMoreMayBe() {
        EvenErrors x = new EvenErrors();
        due(x.undo(), NONE);
        due(x.point(0, 1), 1);
        due(x.undo(), 0);
        due(x.undo(), NONE);
        for (int k = 0; k < 6; k++) {
            due(x.point(0, k), 1);
        }
        for (int k = 5; k >= 0; k--) {
            due(x.undo(), k);
            due(x.count(6), k);
        }
        due(x.undo(), NONE);
        due(x.undo(), NONE);
        isAsNew(x);
    }

    @Sentence(in = "Promise 19", says = "NONE: none is known.")
    static void whatTellsNoPointsIsNotUndone() {
        EvenErrors x = new EvenErrors();
        due(x.seed(4), 1);
        due(x.type('1'), 1);
        due(x.image(), 1);
        due(x.restore(), 1);
        due(x.sheet(0, 0, 3), 3);
        due(x.item(0, 0, 0, 1), 1);
        due(x.film(0, 0, 0), 0);
        due(x.best(0), 0);
        due(x.undo(), NONE);
        due(x.point(0, 1), 1);
        due(x.seed(5), 4);
        due(x.image(), 1);
        due(x.undo(), 0);
        due(x.undo(), NONE);
    }

    @Sentence(in = "Promise 20", says = "THE DRAW becomes v: what it was. BAD: below 0.")
    static void seedIsBadBelow0() {
        EvenErrors x = new EvenErrors();
        due(x.seed(-1), BAD);
        due(x.seed(LEAST_INT), BAD);
        due(x.seed(0), 1);
        due(x.seed(0), 0);
        due(x.seed(MOST_INT), 0);
        due(x.seed(-1), BAD);
        due(x.seed(1), MOST_INT);
    }

    // ---- promises 21 and 22

    @Sentence(in = "Promise 21", says = "All but SHEETS, THE TAPE is kept as an IMAGE (what may be UNDONE, too): 1.")
    static void anImageKeepsWhatMayBeUndone() {
        EvenErrors x = of("2;1,2;(0,5)!(1,2)");
        due(x.fix(1), 1);
        x.seed(44);
        due(x.point(5, 5), 3);
        x.seed(45);
        due(x.image(), 1);
        for (int k = 0; k < 9; k++) {
            due(x.point(6, k), 4);
        }
        due(x.restore(), 1);
        due(x.count(6), 3);
        drawIs(x, 45);
        due(x.undo(), 2);
        due(x.count(1), bits(0, 1));
        drawIs(x, 44);
        due(x.undo(), 1);
        due(x.count(2), bits(0));
        due(x.undo(), 0);
        isAsNew(x);
    }

    @Sentence(in = "Promise 21", says = "All but SHEETS, THE TAPE is kept as an IMAGE (what may be UNDONE, too): 1.")
    static void theLatestImageIsKept() {
        EvenErrors x = new EvenErrors();
        due(x.point(0, 1), 1);
        due(x.image(), 1);
        due(x.point(0, 2), 1);
        due(x.image(), 1);
        due(x.point(0, 3), 1);
        due(x.restore(), 1);
        due(x.told(0, 0), 101);
        due(x.count(6), 2);
    }

    @Sentence(in = "Promise 21", says = "All but SHEETS, THE TAPE is kept as an IMAGE")
    static void sheetsAndTheTapeAreNotOfAnImage() {
        EvenErrors x = new EvenErrors();
        due(x.type('2'), 1);
        due(x.sheet(0, 0, 4), 4);
        due(x.sheet(1, 0, 4), 4);
        fill(x, 1, 0, 0, 3, 33, 4, 44);
        due(x.image(), 1);
        due(x.type(';'), 2);
        due(x.drop(0), 4);
        fill(x, 1, 0, 0, 5, 55);
        due(x.sheet(2, 1, 2), 2);
        due(x.restore(), 1);
        due(x.type('1'), 3);
        due(x.type(';'), 4);
        due(x.read(), 0);
        due(x.count(0), 2);
        due(x.drop(0), NULL);
        due(x.drop(2), 2);
        pairIs(x, 1, 0, 0, 5, 55);
        pairIs(x, 1, 0, 2, 4, 44);
        due(x.restore(), 1);
        due(x.read(), -20);
    }

    @Sentence(in = "Promise 21", says = "All but SHEETS, THE TAPE is kept as an IMAGE")
    static void anImageOfANewObjectIsOne() {
        EvenErrors x = new EvenErrors();
        due(x.image(), 1);
        due(read(x, "3;2,2,2;(0,1)!(1,2)"), 2);
        x.seed(9);
        due(x.restore(), 1);
        isAsNew(x);
    }

    @Sentence(in = "Promise 22", says = "All is as it was then: 1.")
    static void restoreBringsBackAllThatWasToldAndWhatIsAskedOfIt() {
        EvenErrors x = of("1;1;(0,0)(1,3)(2,0)(3,9)(5,1)!");
        x.seed(44);
        x.fix(5);
        long above = x.best(0);
        long below = x.best(1);
        long steps = x.best(6);
        due(x.image(), 1);
        due(read(x, "3;3,0,1;(-1,9)!(0,7)!(5,5)!"), 3);
        x.seed(45);
        due(x.best(6), 0);
        due(x.restore(), 1);
        due(x.count(0), 1);
        due(x.count(1), bits(0, 1, 2, 3, 5));
        due(x.count(2), 0);
        due(x.count(6), 2);
        due(x.told(3, 0), 108);
        due(x.told(3, 3), 1);
        drawIs(x, 44);
        least(x, above, below);
        due(x.best(6), steps);
        due(x.under(0, 1), NOT);
        due(x.under(2, 0), NOT);
    }

    @Sentence(in = "Promise 22", says = "All is as it was then: 1.")
    static void anImageStaysAndMayBeRestoredAgain() {
        EvenErrors x = of("1;1;(0,5)!(1,2)");
        due(x.image(), 1);
        for (int k = 0; k < 3; k++) {
            due(x.undo(), 0);
            due(x.point(6, k), 1);
            due(x.restore(), 1);
            due(x.count(1), bits(0, 1));
            due(x.count(6), 1);
        }
    }

    @Sentence(in = "Promise 22", says = "NONE: there is none.")
    static void restoreIsNoneWithoutAnImage() {
        EvenErrors x = of("1;1;(0,5)!(1,2)");
        due(x.restore(), NONE);
        due(x.count(1), bits(0, 1));
        due(x.count(6), 1);
        due(x.undo(), 0);
        due(x.restore(), NONE);
        due(x.image(), 1);
        due(x.restore(), 1);
    }
}
