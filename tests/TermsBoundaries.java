/** Boundary cases of what answers mean: refusals and which comes first, fractions, SETS. */
final class TermsBoundaries extends Boundaries {
    /** Over x x less 1, with a POLE at 1; three POINTS are enough for d 1. */
    private static EvenErrors withPole() {
        return of("1;-1,0,1;(0,3)(1,2)(2,1)");
    }

    private static EvenErrors ofEight() {
        return of("1;1;(-6,1)(-5,1)(-4,1)(-3,1)(-2,1)(-1,1)(0,1)(1,1)");
    }

    // ---- which refusal comes first

    @Sentence(in = "Terms", says = "of several BAD ahead of all others")
    static void badComesAheadOfNoneWherePointsAreMissing() {
        EvenErrors x = new EvenErrors();
        due(x.told(3, 3), NONE);
        due(x.told(3, 4), BAD);
        due(x.told(3, -1), BAD);
        due(x.part(0, 2), NONE);
        due(x.part(0, 3), BAD);
        due(x.part(4, 0), BAD);
        due(x.value(0, 2), NONE);
        due(x.value(0, 3), BAD);
        due(x.value(7, 0), BAD);
        due(x.error(0, 2), NONE);
        due(x.error(0, 3), BAD);
        due(x.error(7, 0), BAD);
        due(x.step(0, 4), NONE);
        due(x.step(0, 5), BAD);
        due(x.step(-1, 0), BAD);
        due(x.step(MOST_INT, -1), BAD);
    }

    @Sentence(in = "Terms", says = "of several BAD ahead of all others")
    static void badComesAheadOfNoneWhereThereIsAPole() {
        EvenErrors x = withPole();
        due(x.best(7), NONE);
        due(x.best(8), BAD);
        due(x.best(-1), BAD);
        due(x.part(3, 2), NONE);
        due(x.part(4, 2), BAD);
        due(x.part(3, 3), BAD);
        due(x.value(1, 2), NONE);
        due(x.value(1, 3), BAD);
        due(x.value(-7, 2), BAD);
        due(x.error(1, 2), NONE);
        due(x.error(1, 3), BAD);
        due(x.error(7, 2), BAD);
        due(x.step(0, 4), NONE);
        due(x.step(-1, 4), BAD);
        due(x.step(0, -1), BAD);
        due(x.level(8191, 2), NONE);
        due(x.level(8192, 2), BAD);
        due(x.level(8191, 3), BAD);
        due(x.lost(10, 1), NONE);
        due(x.lost(11, 1), BAD);
        due(x.lost(10, 2), BAD);
    }

    @Sentence(in = "Terms", says = "of several BAD ahead of all others")
    static void badComesAheadOfNot() {
        EvenErrors x = new EvenErrors();
        due(x.level(0, 2), NOT);
        due(x.level(0, 3), BAD);
        due(x.level(0, -1), BAD);
        due(x.level(-1, 0), BAD);
        due(x.level(8192, 0), BAD);
        due(x.sheet(0, 0, 24), 24);
        due(x.degrees(0, 0, 0, 2), NOT);
        due(x.degrees(0, 0, 0, 9), BAD);
    }

    @Sentence(in = "Terms", says = "of several BAD ahead of all others")
    static void badComesAheadOfFull() {
        EvenErrors x = ofEight();
        due(x.point(2, 0), FULL);
        due(x.point(7, 0), BAD);
        due(x.point(2, 100), BAD);
        for (int k = 1; k <= 90; k++) {
            due(x.type('1'), k);
        }
        due(x.type(126), FULL);
        due(x.type(127), BAD);
        due(x.type(31), BAD);
    }

    @Sentence(in = "Terms", says = "of several BAD ahead of all others")
    static void badComesAheadOfNull() {
        EvenErrors x = new EvenErrors();
        due(x.degrees(0, 3, 0, 8), NULL);
        due(x.degrees(0, 4, 0, 8), BAD);
        due(x.degrees(0, 3, 0, 9), BAD);
        due(x.degrees(0, 3, 0, 0), BAD);
        due(x.film(0, 3, 0), NULL);
        due(x.film(0, 4, 0), BAD);
        due(x.item(0, 3, 0, 0), NULL);
        due(x.item(0, 4, 0, 0), BAD);
        due(x.copy(0, 0, 3, 0, 0), NULL);
        due(x.copy(0, 0, 4, 0, 0), BAD);
        due(x.copy(4, 0, 0, 0, 0), BAD);
    }

    @Sentence(in = "Terms", says = "of several BAD ahead of all others")
    static void badComesAheadOfCastAndIndex() {
        EvenErrors x = new EvenErrors();
        x.sheet(0, 0, 4);
        due(x.degrees(0, 1, 0, 1), CAST);
        due(x.degrees(0, 1, 0, 9), BAD);
        due(x.degrees(0, -1, 0, 1), BAD);
        due(x.degrees(0, 0, -1, 1), INDEX);
        due(x.degrees(0, 0, -1, 9), BAD);
        due(x.degrees(0, 0, 0, 8), INDEX);
        due(x.degrees(0, 0, 0, 9), BAD);
        due(x.film(0, -1, -1), BAD);
        due(x.item(0, -1, -1, 0), BAD);
        due(x.copy(0, -1, -1, -1, -1), BAD);
        due(x.copy(-1, -1, 0, -1, -1), BAD);
    }

    @Sentence(in = "Terms", says = "of several BAD ahead of all others")
    static void badComesAheadOfSize() {
        EvenErrors x = new EvenErrors();
        due(x.sheet(0, 0, -1), SIZE);
        due(x.sheet(4, 0, -1), BAD);
        due(x.sheet(-1, 0, -1), BAD);
        due(x.sheet(0, 4, -1), BAD);
        due(x.sheet(0, -1, -1), BAD);
    }

    @Sentence(in = "Terms", says = "then the first that a call names")
    static void noneComesAheadOfNot() {
        EvenErrors x = of("1;1;(0,5)!(1,2)");
        due(x.fix(1), NOT);
        due(x.fix(2), NONE);
        EvenErrors pole = withPole();
        due(pole.level(0, 0), NONE);
        pole.out(1);
        due(pole.level(0, 0), NOT);
    }

    @Sentence(in = "Terms", says = "then the first that a call names")
    static void notComesBehindNullCastAndIndex() {
        EvenErrors x = new EvenErrors();
        x.sheet(0, 0, 3);
        due(x.item(0, 0, 0, 7), 1);
        due(x.degrees(0, 0, 0, 1), NOT);
        due(x.degrees(0, 1, 0, 1), CAST);
        due(x.degrees(0, 0, 0, 2), INDEX);
        due(x.degrees(0, 0, 2, 1), INDEX);
        x.drop(0);
        due(x.degrees(0, 0, 0, 1), NULL);
    }

    @Sentence(in = "Terms", says = "(NULL, CAST, INDEX, SIZE in this order;")
    static void nullComesAheadOfCastAndIndex() {
        EvenErrors x = new EvenErrors();
        x.sheet(0, 0, 4);
        x.sheet(1, 2, 4);
        due(x.drop(1), 4);
        for (int lane = 0; lane < 4; lane++) {
            due(x.degrees(1, lane, -1, 1), NULL);
            due(x.degrees(1, lane, 0, 8), NULL);
            due(x.film(1, lane, -1), NULL);
            due(x.item(1, lane, -1, 0), NULL);
            due(x.item(1, lane, 4, 0), NULL);
        }
        due(x.copy(0, -1, 1, -1, 1), NULL);
        due(x.copy(1, -1, 0, -1, 1), NULL);
        due(x.copy(0, 0, 1, 0, -1), NULL);
        due(x.copy(1, 0, 1, 0, 25), NULL);
    }

    @Sentence(in = "Terms", says = "(NULL, CAST, INDEX, SIZE in this order;")
    static void castComesAheadOfIndex() {
        EvenErrors x = of("1;1;(0,5)(1,2)");
        x.sheet(0, 1, 3);
        x.sheet(1, 2, 3);
        due(x.degrees(0, 2, -1, 1), CAST);
        due(x.degrees(0, 0, 0, 2), CAST);
        due(x.degrees(0, 1, 0, 2), INDEX);
        due(x.film(0, 3, -1), CAST);
        due(x.film(0, 0, 0), CAST);
        due(x.film(0, 1, 0), INDEX);
        due(x.item(0, 0, -1, 0), CAST);
        due(x.item(0, 2, 3, 0), CAST);
        due(x.item(0, 1, 3, 0), INDEX);
        due(x.copy(0, -1, 1, 0, 1), CAST);
        due(x.copy(1, 0, 0, -1, 1), CAST);
        due(x.copy(1, 0, 0, 0, -1), CAST);
        due(x.copy(1, 0, 0, 0, 4), CAST);
        due(x.copy(1, 0, 1, 0, 4), INDEX);
    }

    @Sentence(in = "Terms", says = "CAST -12 (of SHEETS another LANE)")
    static void castIsEachOtherLane() {
        EvenErrors x = new EvenErrors();
        for (int held = 0; held < 4; held++) {
            x.sheet(0, held, 2);
            for (int asked = 0; asked < 4; asked++) {
                due(x.item(0, asked, 0, 0), asked == held ? 1 : CAST);
                due(x.film(0, asked, 0), asked == held ? 0 : CAST);
                due(x.degrees(0, asked, 0, 1), asked == held ? 15 : CAST);
            }
        }
    }

    // ---- INDEX where no item is taken

    @Sentence(in = "Terms", says = "INDEX also where no item is taken, if i, j is below 0, or above how many there are")
    static void indexOfAFilmOfNoPoints() {
        EvenErrors x = new EvenErrors();
        x.sheet(0, 0, 4);
        due(x.film(0, 0, 0), 0);
        due(x.film(0, 0, 4), 0);
        due(x.film(0, 0, 5), INDEX);
        due(x.film(0, 0, -1), INDEX);
        due(x.film(0, 0, LEAST_INT), INDEX);
        due(x.film(0, 0, MOST_INT), INDEX);
        x.sheet(0, 0, 0);
        due(x.film(0, 0, 0), 0);
        due(x.film(0, 0, 1), INDEX);
        due(x.film(0, 0, -1), INDEX);
    }

    @Sentence(in = "Terms", says = "INDEX also where no item is taken, if i, j is below 0, or above how many there are")
    static void indexOfACopyOfNone() {
        EvenErrors x = new EvenErrors();
        x.sheet(0, 0, 4);
        x.sheet(1, 0, 2);
        due(x.copy(0, 0, 1, 0, 0), 0);
        due(x.copy(0, 4, 1, 2, 0), 0);
        due(x.copy(0, 5, 1, 2, 0), INDEX);
        due(x.copy(0, 4, 1, 3, 0), INDEX);
        due(x.copy(0, -1, 1, 0, 0), INDEX);
        due(x.copy(0, 0, 1, -1, 0), INDEX);
        due(x.copy(0, LEAST_INT, 1, 0, 0), INDEX);
        due(x.copy(0, 0, 1, MOST_INT, 0), INDEX);
        x.sheet(1, 0, 0);
        due(x.copy(1, 0, 1, 0, 0), 0);
        due(x.copy(1, 1, 1, 0, 0), INDEX);
        due(x.copy(1, 0, 1, 1, 0), INDEX);
    }

    // ---- what is refused

    @Sentence(in = "Terms", says = "What is refused changes nothing, but as told.")
    static void refusedPointsChangeNothing() {
        EvenErrors x = of("1;2,1,-1;(-6,1)!(-5,1)(-4,1)(-3,1)(-2,1)(3,1)(0,1)(1,1)");
        x.seed(77);
        due(x.point(5, 0), FULL);
        due(x.point(0, 1), NOT);
        due(x.point(0, 100), BAD);
        due(x.point(7, 2), BAD);
        due(x.out(5), NONE);
        due(x.out(-7), BAD);
        due(x.fix(1), NOT);
        due(x.fix(5), NONE);
        due(x.fix(7), BAD);
        due(x.degree(1), NOT);
        due(x.degree(0), NOT);
        due(x.degree(4), BAD);
        due(x.under(0, 2), NOT);
        due(x.under(0, 4), BAD);
        due(x.under(3, 0), BAD);
        due(x.drift(0), BAD);
        due(x.drift(41), BAD);
        due(x.seed(-1), BAD);
        due(x.count(6), 1);
        due(x.count(0), 1);
        due(x.count(1), bits(-6, -5, -4, -3, -2, 3, 0, 1));
        due(x.count(2), bits(-6));
        due(x.told(0, 0), 100);
        due(x.under(1, 1), NOT);
        due(x.under(2, -1), NOT);
        drawIs(x, 77);
        due(x.undo(), 0);
        due(x.undo(), NONE);
        drawIs(x, 1);
        isAsNew(x);
    }

    @Sentence(in = "Terms", says = "What is refused changes nothing, but as told.")
    static void aRefusedChangeLosesNoneThatMayBeUndone() {
        EvenErrors x = new EvenErrors();
        for (int k = 0; k < 6; k++) {
            due(x.point(k, 9), k + 1);
        }
        due(x.point(0, 9), NOT);
        due(x.out(6), NONE);
        due(x.fix(6), NONE);
        due(x.degree(1), NOT);
        due(x.under(0, 1), NOT);
        due(x.drift(0), BAD);
        due(read(x, "1;1;("), -25);
        for (int k = 5; k >= 0; k--) {
            due(x.undo(), k);
        }
        due(x.count(1), 0);
    }

    @Sentence(in = "Terms", says = "What is refused changes nothing, but as told.")
    static void aRefusedLetterIsNotOnTheTape() {
        EvenErrors x = new EvenErrors();
        due(x.type('2'), 1);
        due(x.type(31), BAD);
        due(x.type(127), BAD);
        due(x.type(';'), 2);
        due(x.type('1'), 3);
        due(x.type(';'), 4);
        due(x.read(), 0);
        due(x.count(0), 2);
        String text = "3;1;";
        for (int k = 0; k < 90; k++) {
            due(x.type(k < text.length() ? text.charAt(k) : ' '), k + 1);
        }
        due(x.type('x'), FULL);
        due(x.type('y'), FULL);
        due(x.read(), 0);
        due(x.count(0), 3);
    }

    @Sentence(in = "Terms", says = "What is refused changes nothing, but as told.")
    static void refusedCallsOfSheetsChangeNothing() {
        EvenErrors x = of("1;1;(-6,99)(0,7)(3,-99)");
        x.sheet(0, 0, 4);
        x.sheet(1, 0, 2);
        fill(x, 0, 0, 0, 1, 10, 2, 20);
        fill(x, 1, 0, 0, 5, 50);
        due(x.film(0, 0, 0), INDEX);
        due(x.film(0, 1, 0), CAST);
        due(x.item(0, 0, 4, 9), INDEX);
        due(x.item(0, 1, 0, 9), CAST);
        due(x.item(2, 0, 0, 9), NULL);
        due(x.copy(0, 0, 1, 0, 3), INDEX);
        due(x.copy(1, 0, 0, 3, 2), INDEX);
        due(x.copy(1, 0, 0, 0, -1), INDEX);
        due(x.sheet(0, 0, 25), BAD);
        due(x.sheet(0, 0, -1), SIZE);
        due(x.sheet(0, 4, 1), BAD);
        due(x.drop(4), BAD);
        due(x.drop(2), NULL);
        pairIs(x, 0, 0, 0, 1, 10);
        pairIs(x, 0, 0, 2, 2, 20);
        pairIs(x, 1, 0, 0, 5, 50);
        due(x.drop(0), 4);
        due(x.drop(1), 2);
    }

    @Sentence(in = "Terms", says = "What is refused changes nothing, but as told.")
    static void refusedQuestionsChangeNothing() {
        EvenErrors x = of("1;1;(0,0)(1,3)(2,0)(3,9)");
        due(x.step(2, 0), NONE);
        due(x.level(8191, 0), NOT);
        due(x.level(0, 0), NOT);
        due(x.level(bits(0, 2, 3), 0), 3);
        due(x.error(6, 0), NONE);
        due(x.lost(11, 0), BAD);
        due(x.lost(5, 0), 3);
        due(x.count(6), 1);
        step(x, 0, bits(0, 1, 2), 3, 2);
        step(x, 1, bits(1, 2, 3), 3, 1);
        least(x, 3, 1);
        part(x, 1, 3, 1, 1);
    }

    @Sentence(in = "What it is", says = "An object is used for at most 512 calls after it has been made")
    static void the512thCallAnswersAsDue() {
        EvenErrors x = new EvenErrors();
        for (int call = 1; call <= 505; call++) {
            due(x.drift(40) > 8 ? 1 : 0, 0);
        }
        due(x.count(6), 6);
        due(x.seed(1) >= 0 ? 1 : 0, 1);
        due(x.drift(1), 8);
        drawIs(x, 1103527590);
        due(x.undo(), 5);
        due(x.undo(), 4);
        due(x.count(6), 4);
    }

    // ---- fractions

    @Sentence(in = "Terms", says = "A fraction is told in lowest terms: 0 what is above, without its sign, 1 what is below")
    static void fractionsAreInLowestTerms() {
        // P is c: 10 and -15 less c by 3 are alike, turned over, for c -15 by 2.
        EvenErrors x = of("0;3;(0,10)(1,-15)");
        least(x, 25, 2);
        part(x, 0, 15, 2, 2);
        value(x, 5, 5, 2, 2);
        error(x, 0, 25, 2, 1);
        error(x, 1, 25, 2, 2);
        step(x, 0, bits(0, 1), 25, 2);
        level(x, bits(0, 1), 25, 2, 1);
        lost(x, 5, 1, 4);
        lost(x, 2, 16, 25);
    }

    @Sentence(in = "Terms", says = "A fraction is told in lowest terms: 0 what is above, without its sign, 1 what is below")
    static void fractionsBeyondAnIntAreTold() {
        EvenErrors x = of("3;1,-3,-3;(-6,-92)(-5,92)(-3,-96)(5,-95)(6,94)!");
        least(x, 703979, 15050);
        part(x, 1, 15873847289L, 1986600, 1);
        part(x, 3, 513482993, 1986600, 2);
        value(x, 2, 5919996517L, 2814350, 2);
        value(x, 4, 9146677853L, 19534900, 2);
        EvenErrors eight = of("3;1,-3,-3;(-6,91)(-3,-92)(1,-97)(2,-92)(3,93)(4,-98)(5,-94)(6,98)");
        least(eight, 1909107, 19796);
        due(eight.best(6), 8);
        value(eight, 5, 3450113, 47569788, 1);
        error(eight, 5, 4475010185L, 47569788, 2);
    }

    @Sentence(in = "Terms", says = "A fraction is told in lowest terms: 0 what is above, without its sign, 1 what is below")
    static void aWholeNumberIsByOne() {
        EvenErrors x = of("0;-3;(0,10)(1,-10)(2,8)");
        least(x, 10, 1);
        error(x, 2, 8, 1, 1);
        error(x, 1, 10, 1, 2);
        level(x, bits(0, 2), 1, 1, 2);
        lost(x, 0, 1, 1);
        EvenErrors line = of("1;-3;(0,4)(1,2)");
        part(line, 0, 12, 1, 2);
        part(line, 1, 6, 1, 1);
        value(line, 6, 8, 1, 2);
    }

    @Sentence(in = "Terms", says = "1 what is below (1, if it is 0), 2 its sign (0: it is 0;")
    static void belowIsOneAndTheSignNoneWhereAFractionIsZero() {
        EvenErrors x = of("1;3;(1,0)(4,6)(0,-2)");
        least(x, 0, 1);
        part(x, 2, 0, 1, 0);
        part(x, 3, 0, 1, 0);
        value(x, 1, 0, 1, 0);
        error(x, 4, 0, 1, 0);
        step(x, 0, bits(0, 1, 4), 0, 1);
        level(x, bits(0, 1, 4), 0, 1, 0);
        // P is x by 2: what is 0 is so beside numbers that are not whole.
        EvenErrors half = of("1;1;(-1,1)(0,0)!(1,2)");
        least(half, 3, 2);
        part(half, 1, 1, 2, 1);
        part(half, 0, 0, 1, 0);
        value(half, 0, 0, 1, 0);
        error(half, 0, 0, 1, 0);
        lost(half, 10, 0, 1);
    }

    @Sentence(in = "Terms", says = "2 its sign (0: it is 0; 1: above 0; 2: below).")
    static void theSignIsOneAboveZeroAndTwoBelow() {
        // P is 3 less 3 x, Q is -1 less x: signs above and below turn each other over.
        EvenErrors x = of("1;-1,-1;(0,-3)(2,1)");
        part(x, 0, 3, 1, 1);
        part(x, 1, 3, 1, 2);
        value(x, -2, 9, 1, 1);
        value(x, 5, 2, 1, 1);
        value(x, 0, 3, 1, 2);
        value(x, 1, 0, 1, 0);
        due(x.value(-1, 2), NONE);
        EvenErrors errors = of("0;-2;(0,1)(1,-1)");
        error(errors, 0, 1, 1, 1);
        error(errors, 1, 1, 1, 2);
    }

    // ---- SETS

    @Sentence(in = "Terms", says = "SETS of x -6 .. 6 are bits: x and 6 together tells which.")
    static void setsReachFromBit0ToBit12() {
        EvenErrors x = of("0;1;(-6,1)(6,3)");
        due(x.count(1), 1 | 1 << 12);
        due(x.best(2), 1 | 1 << 12);
        due(x.best(3), 1 << 12);
        due(x.best(7), 1 | 1 << 12);
        due(of("0;1;(-6,3)(6,1)").best(3), 1);
        due(x.step(0, 0), 1 | 1 << 12);
        level(x, 1 | 1 << 12, 1, 1, 2);
        x.degree(1);
        due(x.fix(6), 1);
        due(x.count(2), 1 << 12);
        due(x.fix(6), 0);
        due(x.fix(-6), 1);
        due(x.count(2), 1);
        x.under(0, 0);
        due(x.count(3), 1 | 1 << 12);
    }
}
