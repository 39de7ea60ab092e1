/** Boundary cases of a TEXT, its FAULTS, and promise 10. */
final class TextBoundaries extends Boundaries {
    private static final String EIGHT = "(-6,1)(-5,1)(-4,1)(-3,1)(-2,1)(-1,1)(0,1)(1,1)";

    /** The FAULT stands at a place, the first is 0. */
    private static void fault(String text, int place) {
        EvenErrors x = new EvenErrors();
        due(read(x, text), -20 - place);
        isAsNew(x);
    }

    private static EvenErrors fine(String text, int points) {
        EvenErrors x = new EvenErrors();
        due(read(x, text), points);
        return x;
    }

    private static void beneathIs(EvenErrors x, int q0, int q1, int q2) {
        due(x.under(0, q0), NOT);
        due(x.under(1, q1), NOT);
        due(x.under(2, q2), NOT);
    }

    // ---- what a TEXT is

    @Sentence(in = "Terms", says = "A TEXT tells all: a figure 0 .. 3 (d), ;")
    static void theDegreeOfATextIsOneFigureOf0To3() {
        for (int d = 0; d <= 3; d++) {
            due(fine(d + ";1;", 0).count(0), d);
        }
        fault("4;1;", 0);
        fault("9;1;", 0);
        fault("-1;1;", 0);
        fault("/;1;", 0);
        fault(";1;", 0);
        fault("01;1;", 1);
        fault("10;1;", 1);
        fault("1,1;", 1);
    }

    @Sentence(in = "Terms", says = "A TEXT tells all")
    static void whatWasToldAheadOfATextIsGone() {
        EvenErrors x = of("3;3,3,3;(-6,1)!(-5,1)!(-4,1)!(0,7)(6,9)");
        due(read(x, "0;-1;(0,8)(5,2)"), 2);
        due(x.count(0), 0);
        due(x.count(1), bits(0, 5));
        due(x.count(2), 0);
        due(x.told(0, 0), 107);
        beneathIs(x, -1, 0, 0);
        due(read(x, "1;1;"), 0);
        due(x.count(1), 0);
    }

    @Sentence(in = "Terms", says = "A TEXT tells all: a figure 0 .. 3 (d), ;")
    static void whatNoTextTellsStays() {
        EvenErrors x = new EvenErrors();
        x.seed(77);
        due(x.sheet(0, 0, 3), 3);
        due(x.point(1, 1), 1);
        due(x.image(), 1);
        due(read(x, "0;-1;(0,8)(5,2)"), 2);
        drawIs(x, 77);
        due(x.count(6), 2);
        due(x.drop(0), 3);
        due(x.restore(), 1);
        due(x.count(1), bits(1));
    }

    @Sentence(in = "Terms", says = "one to three numbers with , between (q0, q1, q2; 0, if not told), ;")
    static void whatIsNotToldOfBeneathIsZero() {
        EvenErrors x = new EvenErrors();
        due(read(x, "1;3,-3,2;"), 0);
        beneathIs(x, 3, -3, 2);
        due(read(x, "1;-3,3;"), 0);
        beneathIs(x, -3, 3, 0);
        due(read(x, "1;2;"), 0);
        beneathIs(x, 2, 0, 0);
        due(read(x, "1;0;"), 0);
        beneathIs(x, 0, 0, 0);
    }

    @Sentence(in = "Terms", says = "one to three numbers with , between (q0, q1, q2; 0, if not told), ;")
    static void noNumberOfBeneathOrAFourthIsAFault() {
        fault("1;;", 2);
        fault("1;,1;", 2);
        fault("1;1,;", 4);
        fault("1;1,2,;", 6);
        fault("1;1,,2;", 4);
        fault("1;1,2,3,", 7);
        fault("1;1,2,3,1;", 7);
        fault("1;1(0,0)", 3);
        fault("1;1;;", 4);
        fine("1;1,2,3;", 0);
    }

    @Sentence(in = "Terms", says = "then POINTS, as many as there may be (none, too)")
    static void aTextTellsNoneToEightPoints() {
        due(fine("1;1;", 0).count(1), 0);
        due(fine("1;1;(6,-9)", 1).count(1), bits(6));
        due(fine("1;1;" + EIGHT, 8).count(1), 255);
    }

    @Sentence(in = "Terms", says = "( , a number (x), a comma, a number (y), ) , perhaps ! (FIXED).")
    static void aPointOfATextIsFixedByAMarkBehindIt() {
        EvenErrors x = fine("2;1;(0,5)(1,2)!(2,3)(3,4) !", 4);
        due(x.count(2), bits(1, 3));
        fault("2;1;!(0,5)", 4);
        fault("2;1;(0,5!)", 8);
        fault("2;1;(0!,5)", 6);
        fault("2;1;(0,5)!!", 10);
        fault("2;1;(0,5)! !", 11);
    }

    @Sentence(in = "Terms", says = "( , a number (x), a comma, a number (y), ) , perhaps ! (FIXED).")
    static void aPointOfATextHasJustTwoNumbers() {
        fault("1;1;()", 5);
        fault("1;1;(,1)", 5);
        fault("1;1;(1)", 6);
        fault("1;1;(1;1)", 6);
        fault("1;1;(1,)", 7);
        fault("1;1;(1,1,1)", 8);
        fault("1;1;(1,1(2,2)", 8);
        fault("1;1;(1,1),(2,2)", 9);
        fault("1;1;((1,1)", 5);
        fault("1;1;(1,1))", 9);
        fault("1;1;1,1)", 4);
    }

    @Sentence(in = "Terms", says = "A number is perhaps - , then one or two figures.")
    static void aNumberHasOneOrTwoFiguresAndAMinusAtMost() {
        EvenErrors x = fine("1;-3,03,-02;(-6,-99)(06,99)(-0,-0)(1,09)(-05,-1)", 5);
        beneathIs(x, -3, 3, -2);
        due(x.count(1), bits(-6, -5, 0, 1, 6));
        due(x.told(-6, 0), 0);
        due(x.told(6, 0), 198);
        due(x.told(0, 0), 99);
        due(x.told(1, 0), 108);
        due(x.told(-5, 0), 98);
        fault("1;--1;", 3);
        fault("1;+1;", 2);
        fault("1;-;", 3);
        fault("1;1-;", 3);
        fault("1;1;(-,1)", 6);
        fault("1;1;(1,-)", 8);
        fault("1;1;(1,--1)", 8);
    }

    // ---- FAULTS

    @Sentence(in = "Terms", says = "A FAULT is the first letter (behind blanks) that can't stand there")
    static void aFaultIsTheFirstOfSeveralAndBehindBlanks() {
        fault("x", 0);
        fault("   x", 3);
        fault("1  x", 3);
        fault("1;  x", 4);
        fault("1;-  x", 5);
        fault("1;1  x", 5);
        fault("1;1;  x", 6);
        fault("1;1;(  x", 7);
        fault("1;1;(1  x", 8);
        fault("1;1;(1,  x", 9);
        fault("1;1;(1,1  x", 10);
        fault("1;1;(1,1)  x", 11);
        fault("1;1;(1,1)!  x", 12);
        fault("4;4;(7,100)(7,100)!!", 0);
        fault("1;4;(7,100)(7,100)!!", 2);
        fault("1;1;(7,100)(7,100)!!", 5);
        fault("1;1;(6,100)(6,100)!!", 9);
        fault("1;1;(6,10)(6,100)!!", 11);
    }

    @Sentence(in = "Terms", says = "(a third figure;")
    static void aThirdFigureIsAFault() {
        fault("1;003;", 4);
        fault("1;-003;", 5);
        fault("1;01,002;", 7);
        fault("1;1;(006,1)", 7);
        fault("1;1;(-006,1)", 8);
        fault("1;1;(1,100)", 9);
        fault("1;1;(1,-100)", 10);
        fault("1;1;(1,000)", 9);
        fine("1;03;(06,99)", 1);
    }

    @Sentence(in = "Terms", says = "a 9th ( ,")
    static void aNinthPointOfATextIsAFaultAtItsFirstLetter() {
        fine("1;1;" + EIGHT, 8);
        fault("1;1;" + EIGHT + "(2,1)", 4 + EIGHT.length());
        fault("1;1;" + EIGHT + "(", 4 + EIGHT.length());
        fault("1;1;" + EIGHT + "  (2,1)", 6 + EIGHT.length());
        fault("1;1;" + EIGHT + "!(2,1)", 5 + EIGHT.length());
        fine("1;1;" + EIGHT + "!", 8);
    }

    @Sentence(in = "Terms", says = "a ! more than may be FIXED, too;")
    static void aMarkMoreThanMayBeFixedIsAFault() {
        fault("0;1;(0,1)!", 9);
        fine("1;1;(0,1)!(1,1)", 2);
        fault("1;1;(0,1)!(1,1)!", 15);
        fine("2;1;(0,1)!(1,1)!", 2);
        fault("2;1;(0,1)!(1,1)!(2,1)!", 21);
        due(fine("3;1;(0,1)!(1,1)!(2,1)!(3,1)", 4).count(2), bits(0, 1, 2));
        fault("3;1;(0,1)!(1,1)!(2,1)!(3,1) !", 28);
    }

    @Sentence(in = "Terms", says = "the end: how many letters there are)")
    static void theEndOfATextThatIsNotWholeIsAFault() {
        String text = "1;-2,1,1;(-1,9)";
        for (int length = 0; length < text.length(); length++) {
            if (length != 9) {
                fault(text.substring(0, length), length);
            }
        }
        fine("1;-2,1,1;", 0);
        fine(text, 1);
    }

    @Sentence(in = "Terms", says = "the end: how many letters there are)")
    static void blanksAtTheEndAreLettersToo() {
        fault(" ", 1);
        fault("1;1   ", 6);
        fault("1;1;(1,1  ", 10);
        StringBuilder text = new StringBuilder("1;1;(1,1");
        while (text.length() < 90) {
            text.append(' ');
        }
        fault(text.toString(), 90);
        fine(text.substring(0, 89) + ")", 1);
    }

    @Sentence(in = "Terms", says = "or of a number that is not as told by its first one or two figures (q -3 .. 3;")
    static void aQThatIsNotAsToldIsAFaultAtItsFirstLetter() {
        fine("1;-3,3,-3;", 0);
        fault("1;4;", 2);
        fault("1;-4;", 2);
        fault("1;30;", 2);
        fault("1;-30;", 2);
        fault("1;103;", 2);
        fault("1;400", 2);
        fault("1;1,4;", 4);
        fault("1;1,-4;", 4);
        fault("1;1,1,99;", 6);
        fault("1;1,1,-99;", 6);
    }

    @Sentence(in = "Terms", says = "x -6 .. 6, one that no POINT ahead of it has) its first letter, the - , if there is one.")
    static void anXThatIsNotAsToldIsAFaultAtItsFirstLetter() {
        fine("1;1;(-6,1)(6,1)", 2);
        fault("1;1;(7,1)", 5);
        fault("1;1;(-7,1)", 5);
        fault("1;1;(60,1)", 5);
        fault("1;1;(-60,1)", 5);
        fault("1;1;(601,1)", 5);
        fault("1;1;(1,1)(-10,1)", 10);
    }

    @Sentence(in = "Terms", says = "one that no POINT ahead of it has")
    static void anXThatAPointAheadHasIsAFaultAtItsFirstLetter() {
        fault("1;1;(1,1)(1,1)", 10);
        fault("1;1;(1,1)(01,2)", 10);
        fault("1;1;(0,1)(-0,2)", 10);
        fault("1;1;(-6,1)!(0,1)( -6,2)", 18);
        fault("1;1;(1,1)(1", 10);
        fault("1;1;(1,1)(1x", 10);
        fine("1;1;(1,1)(-1,1)", 2);
        // What no TEXT told is not ahead of it.
        EvenErrors x = of("1;1;(3,3)");
        due(read(x, "1;1;(3,4)"), 1);
        due(x.told(3, 0), 103);
    }

    @Sentence(in = "Terms", says = "its first letter, the - , if there is one.")
    static void ofANumberNotAsToldTheMinusIsTheFault() {
        fault("1;  -4;", 4);
        fault("1;  -  4;", 4);
        fault("1;  4;", 4);
        fault("1;1;(  -7,1)", 7);
        fault("1;1;(  -  7,1)", 7);
        fault("1;1;(  7,1)", 7);
        fault("1;1;(0,1)( - 0,1)", 11);
    }

    @Sentence(in = "Terms", says = "Blanks count for nothing, but end a row of figures.")
    static void blanksCountForNothing() {
        EvenErrors x = fine("  2  ;  - 3  ,  1 , 2 ; ( - 6 , - 99 ) ! ( 6 , 9 )  ", 2);
        due(x.count(0), 2);
        beneathIs(x, -3, 1, 2);
        due(x.count(1), bits(-6, 6));
        due(x.count(2), bits(-6));
        due(x.told(-6, 0), 0);
        due(x.told(6, 0), 108);
    }

    @Sentence(in = "Terms", says = "Blanks count for nothing, but end a row of figures.")
    static void blanksEndARowOfFigures() {
        fault("1 1;1;", 2);
        fault("1;0 1;", 4);
        fault("1;- 0 1;", 6);
        fault("1;1;(0 6,1)", 7);
        fault("1;1;(1,9 9)", 9);
        fault("1;1;(1,99 9)", 10);
        // By its first figure 7 is no x, whatever comes behind the blank.
        fault("1;1;(7 1,1)", 5);
    }

    // ---- promise 10

    @Sentence(in = "Promise 10", says = "is a TEXT: how many POINTS.")
    static void readAnswersHowManyPointsOf0To8() {
        StringBuilder text = new StringBuilder("1;1;");
        for (int n = 0; n <= 8; n++) {
            due(fine(text.toString(), n).count(1), (1 << n) - 1);
            text.append('(').append(n - 6).append(",1)");
        }
    }

    @Sentence(in = "Promise 10", says = "THE TAPE, which is empty then (by a FAULT, too)")
    static void theTapeIsEmptyBehindRead() {
        EvenErrors x = of("1;1;(0,0)");
        due(x.read(), -20);
        due(x.type('1'), 1);
        due(x.read(), -21);
        due(x.read(), -20);
        due(x.type('1'), 1);
        due(x.type(';'), 2);
        due(x.read(), -22);
        due(read(x, "2;1;"), 0);
        due(x.count(0), 2);
    }

    @Sentence(in = "Promise 10", says = "A FAULT: -20 less its place (all else stays).")
    static void aFaultIsMinus20DownToMinus110() {
        EvenErrors x = new EvenErrors();
        due(x.read(), -20);
        due(x.type('x'), 1);
        due(x.read(), -20);
        for (int k = 1; k <= 89; k++) {
            due(x.type(' '), k);
        }
        due(x.type('x'), 90);
        due(x.read(), -109);
        for (int k = 1; k <= 90; k++) {
            due(x.type(' '), k);
        }
        due(x.read(), -110);
    }

    @Sentence(in = "Promise 10", says = "A FAULT: -20 less its place (all else stays).")
    static void behindAFaultAllElseStays() {
        EvenErrors x = of("2;-1,2,1;(3,4)!(2,5)");
        x.seed(88);
        // All but the last letter is as told.
        due(read(x, "3;2,1,3;(-6,9)!(2,6)(3,1)!x"), -46);
        due(x.count(0), 2);
        due(x.count(1), bits(2, 3));
        due(x.count(2), bits(3));
        due(x.told(2, 0), 104);
        due(x.told(3, 0), 103);
        beneathIs(x, -1, 2, 1);
        due(x.count(6), 1);
        drawIs(x, 88);
        due(x.undo(), 0);
        due(x.count(1), 0);
    }
}
