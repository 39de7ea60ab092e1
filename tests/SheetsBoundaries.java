/** Boundary cases of DEGREES and SHEETS, and of promises 23 to 28. */
final class SheetsBoundaries extends Boundaries {
    private static final int[] BEYOND_FOUR = {-1, 4, LEAST_INT, MOST_INT};

    /** SHEET 0 holds eight pairs of longs: x of -3 .. 4, and y that is x less 1, so many times multiplied. */
    private static EvenErrors ofPower(int power) {
        EvenErrors x = new EvenErrors();
        due(x.sheet(0, 3, 16), 16);
        for (int k = 0; k < 8; k++) {
            long y = 1;
            for (int times = 0; times < power; times++) {
                y *= k - 4;
            }
            fill(x, 0, 3, 2 * k, k - 3, y);
        }
        return x;
    }

    // ---- SHEETS

    @Sentence(in = "Terms", says = "sheets 0 .. 3: nothing (at first), or a row of a LANE")
    static void sheetsHoldNothingAtFirst() {
        EvenErrors x = new EvenErrors();
        for (int sheet = 0; sheet < 4; sheet++) {
            due(x.degrees(sheet, 0, 0, 1), NULL);
            due(x.film(sheet, 0, 0), NULL);
            due(x.item(sheet, 0, 0, 0), NULL);
            due(x.copy(sheet, 0, sheet, 0, 0), NULL);
            due(x.drop(sheet), NULL);
        }
    }

    @Sentence(in = "Terms", says = "sheets 0 .. 3:")
    static void thereAreFourSheetsApart() {
        EvenErrors x = new EvenErrors();
        for (int sheet = 0; sheet < 4; sheet++) {
            due(x.sheet(sheet, 3 - sheet, sheet), sheet);
        }
        for (int sheet = 0; sheet < 4; sheet++) {
            due(x.drop(sheet), sheet);
        }
        for (int beyond : BEYOND_FOUR) {
            due(x.sheet(beyond, 0, 0), BAD);
            due(x.drop(beyond), BAD);
        }
    }

    @Sentence(in = "Terms", says = "0 bytes, 1 shorts, 2 ints, 3 longs (all with a sign), of 0 to 24 items.")
    static void itemsOfALaneAreOfItsBitsAndHaveASign() {
        EvenErrors x = new EvenErrors();
        for (int lane = 0; lane < 3; lane++) {
            int bits = 8 << lane;
            due(x.sheet(0, lane, 4), 4);
            // 2 to the bits and 5 more is 5; 6 less than that is -6; with the highest bit alone it's far below.
            fill(x, 0, lane, 0, (1L << bits) + 5, (1L << bits) - 99, -6, 99 - (1L << bits));
            pairIs(x, 0, lane, 0, 5, -99);
            pairIs(x, 0, lane, 2, -6, 99);
            fill(x, 0, lane, 0, (1L << bits - 1) + 5);
            due(x.degrees(0, lane, 0, 1), NOT);
        }
        due(x.sheet(0, 3, 2), 2);
        for (int lane = 0; lane < 3; lane++) {
            fill(x, 0, 3, 0, (1L << (8 << lane)) + 5, 7);
            due(x.degrees(0, 3, 0, 1), NOT);
        }
        fill(x, 0, 3, 0, -6, -99);
        pairIs(x, 0, 3, 0, -6, -99);
    }

    @Sentence(in = "Terms", says = "of 0 to 24 items.")
    static void aSheetHas0To24Items() {
        EvenErrors x = new EvenErrors();
        due(x.sheet(0, 0, 24), 24);
        due(x.item(0, 0, 23, 1), 1);
        due(x.item(0, 0, 24, 1), INDEX);
        due(x.sheet(0, 0, 0), 0);
        due(x.item(0, 0, 0, 1), INDEX);
        due(x.sheet(0, 0, 25), BAD);
        due(x.drop(0), 0);
    }

    // ---- DEGREES

    @Sentence(in = "Terms", says = "3 DEGREES (a set, bits 0 .. 3) of a row that tells n pairs (1 .. 8) x, y: those d for which one polynomial of degree d at most goes through all.")
    static void ofDAnd1PairsAllDegreesFromDOnAre() {
        // No three, four or five of them lie lower.
        EvenErrors x = new EvenErrors();
        due(x.sheet(0, 0, 16), 16);
        fill(x, 0, 0, 0, -6, 0, -5, 1, -4, 0, -3, 1, -2, 0, -1, 1, 0, 0, 1, 1);
        due(x.degrees(0, 0, 0, 1), 15);
        due(x.degrees(0, 0, 0, 2), 14);
        due(x.degrees(0, 0, 0, 3), 12);
        due(x.degrees(0, 0, 0, 4), 8);
        for (int n = 5; n <= 8; n++) {
            due(x.degrees(0, 0, 0, n), 0);
        }
    }

    @Sentence(in = "Terms", says = "those d for which one polynomial of degree d at most goes through all.")
    static void eightPairsMayBeOfEachDegree() {
        for (int power = 0; power <= 3; power++) {
            EvenErrors x = ofPower(power);
            int from = 15 & -(1 << power);
            due(x.degrees(0, 3, 0, 6), from);
            due(x.degrees(0, 3, 0, 8), from);
            // One pair amiss, wherever it stands, and there is none of them.
            for (int k = 0; k < 8; k++) {
                EvenErrors amiss = ofPower(power);
                fill(amiss, 0, 3, 2 * k + 1, 98);
                due(amiss.degrees(0, 3, 0, 8), 0);
            }
        }
    }

    // ---- promise 23

    @Sentence(in = "Promise 23", says = "DEGREES by 2 n items of a SHEET taken as a row of a LANE, from item i on.")
    static void degreesTakesThePairsFromIOn() {
        EvenErrors x = new EvenErrors();
        due(x.sheet(0, 1, 24), 24);
        fill(x, 0, 1, 7, 7, 0, 5, 1, 5, 2, 5, 6, 5, 100, 7);
        due(x.degrees(0, 1, 8, 4), 15);
        due(x.degrees(0, 1, 8, 5), NOT);
        due(x.degrees(0, 1, 7, 1), NOT);
        due(x.degrees(0, 1, 14, 1), 15);
        due(x.degrees(0, 1, 16, 1), NOT);
        due(x.degrees(0, 1, 22, 1), 15);
        due(x.degrees(0, 1, 23, 1), INDEX);
    }

    @Sentence(in = "Promise 23", says = "BAD; NULL; CAST; INDEX; NOT: an item is no such x, y, or two x are alike.")
    static void degreesIsBadBeyondSheetLaneAndN() {
        EvenErrors x = new EvenErrors();
        due(x.sheet(0, 0, 24), 24);
        for (int beyond : BEYOND_FOUR) {
            due(x.degrees(beyond, 0, 0, 1), BAD);
            due(x.degrees(0, beyond, 0, 1), BAD);
        }
        for (int beyond : new int[] {0, 9, -1, LEAST_INT, MOST_INT, LEAST_INT + 1}) {
            due(x.degrees(0, 0, 0, beyond), BAD);
        }
        due(x.degrees(0, 0, 0, 1), 15);
    }

    @Sentence(in = "Promise 23", says = "NULL; CAST; INDEX;")
    static void degreesIsNullOrCastOrIndex() {
        EvenErrors x = new EvenErrors();
        due(x.degrees(0, 0, 0, 1), NULL);
        due(x.sheet(0, 2, 16), 16);
        for (int k = 0; k < 8; k++) {
            fill(x, 0, 2, 2 * k, k - 6, 7);
        }
        due(x.degrees(0, 1, 0, 1), CAST);
        due(x.degrees(0, 2, 0, 8), 15);
        due(x.degrees(0, 2, 1, 8), INDEX);
        due(x.degrees(0, 2, 14, 1), 15);
        due(x.degrees(0, 2, 14, 2), INDEX);
        due(x.degrees(0, 2, 15, 1), INDEX);
        due(x.degrees(0, 2, 16, 1), INDEX);
        due(x.degrees(0, 2, -1, 1), INDEX);
        due(x.degrees(0, 2, LEAST_INT, 8), INDEX);
        due(x.degrees(0, 2, MOST_INT, 8), INDEX);
        due(x.degrees(0, 2, MOST_INT - 1, 1), INDEX);
    }

    @Sentence(in = "Promise 23", says = "NOT: an item is no such x, y, or two x are alike.")
    static void degreesIsNotOfItemsBeyondXAndY() {
        EvenErrors x = new EvenErrors();
        due(x.sheet(0, 3, 4), 4);
        fill(x, 0, 3, 0, -6, -99, 6, 99);
        due(x.degrees(0, 3, 0, 2), 14);
        long[][] wrong = {{-7, 0}, {7, 0}, {0, -100}, {0, 100}, {1L << 32, 0}, {0, 1L << 32}, {1L << 40, 5}, {3, 1L << 63},
            {Long.MIN_VALUE, 0}, {Long.MAX_VALUE, 0}, {0, Long.MIN_VALUE}, {0, Long.MAX_VALUE}};
        for (long[] pair : wrong) {
            EvenErrors y = new EvenErrors();
            due(y.sheet(0, 3, 4), 4);
            fill(y, 0, 3, 0, 5, 5);
            fill(y, 0, 3, 2, pair);
            due(y.degrees(0, 3, 0, 1), 15);
            due(y.degrees(0, 3, 0, 2), NOT);
            due(y.degrees(0, 3, 2, 1), NOT);
        }
    }

    @Sentence(in = "Promise 23", says = "or two x are alike.")
    static void degreesIsNotOfTwoLikeXWhereverTheyAre() {
        EvenErrors x = new EvenErrors();
        due(x.sheet(0, 0, 16), 16);
        for (int k = 0; k < 8; k++) {
            fill(x, 0, 0, 2 * k, k - 1, 7);
        }
        due(x.degrees(0, 0, 0, 8), 15);
        for (int one = 0; one < 8; one++) {
            int other = (one + 3) % 8;
            fill(x, 0, 0, 2 * one, other - 1);
            due(x.degrees(0, 0, 0, 8), NOT);
            due(x.degrees(0, 0, 0, Math.max(one, other)), 15);
            fill(x, 0, 0, 2 * one, one - 1);
        }
        // Of like y, too.
        fill(x, 0, 0, 14, -1, 7);
        due(x.degrees(0, 0, 0, 8), NOT);
    }

    // ---- promise 24

    @Sentence(in = "Promise 24", says = "x, y of all POINTS, by x, two items each, come to a SHEET likewise: how many items.")
    static void filmOf0To8PointsIsUpTo16Items() {
        EvenErrors x = new EvenErrors();
        due(x.sheet(0, 0, 16), 16);
        due(x.film(0, 0, 0), 0);
        for (int k = 1; k <= 8; k++) {
            due(x.point(7 - k, 10 - k), k);
            due(x.film(0, 0, 0), 2 * k);
        }
        pairIs(x, 0, 0, 0, -1, 2);
        pairIs(x, 0, 0, 14, 6, 9);
        due(x.degrees(0, 0, 0, 8), 14);
    }

    @Sentence(in = "Promise 24", says = "x, y of all POINTS, by x, two items each, come to a SHEET likewise: how many items.")
    static void filmLeavesOtherItemsAsTheyAre() {
        EvenErrors x = of("1;1;(3,-99)(-6,99)!");
        for (int lane = 0; lane < 4; lane++) {
            due(x.sheet(0, lane, 8), 8);
            fill(x, 0, lane, 0, 1, 10, 2, 20, 4, 40, 5, 50);
            due(x.film(0, lane, 2), 4);
            pairIs(x, 0, lane, 0, 1, 10);
            pairIs(x, 0, lane, 2, -6, 99);
            pairIs(x, 0, lane, 4, 3, -99);
            pairIs(x, 0, lane, 6, 5, 50);
        }
    }

    @Sentence(in = "Promise 24", says = "BAD; NULL; CAST; INDEX.")
    static void filmIsBadBeyondSheetAndLane() {
        EvenErrors x = of("1;1;(3,-99)");
        due(x.sheet(0, 0, 24), 24);
        for (int beyond : BEYOND_FOUR) {
            due(x.film(beyond, 0, 0), BAD);
            due(x.film(0, beyond, 0), BAD);
        }
        due(x.film(0, 0, 0), 2);
    }

    @Sentence(in = "Promise 24", says = "NULL; CAST; INDEX.")
    static void filmIsNullOrCastOrIndex() {
        EvenErrors x = of("1;1;(3,-99)(-6,99)!");
        due(x.film(0, 0, 0), NULL);
        due(x.sheet(0, 0, 5), 5);
        due(x.film(0, 1, 0), CAST);
        due(x.film(0, 0, 0), 4);
        due(x.film(0, 0, 1), 4);
        due(x.film(0, 0, 2), INDEX);
        due(x.film(0, 0, 5), INDEX);
        due(x.film(0, 0, -1), INDEX);
        due(x.film(0, 0, LEAST_INT), INDEX);
        due(x.film(0, 0, MOST_INT), INDEX);
        due(x.film(0, 0, MOST_INT - 3), INDEX);
        due(x.sheet(0, 0, 3), 3);
        due(x.film(0, 0, 0), INDEX);
    }

    // ---- promises 25 to 27

    @Sentence(in = "Promise 25", says = "A SHEET holds a new row of a LANE: n.")
    static void aNewRowIsAllZerosAndTheOldOneIsGone() {
        EvenErrors x = new EvenErrors();
        for (int lane = 0; lane < 4; lane++) {
            int old = 3 - lane;
            due(x.sheet(0, old, 24), 24);
            for (int k = 0; k < 24; k++) {
                due(x.item(0, old, k, 7), 1);
            }
            due(x.sheet(0, lane, 2), 2);
            due(x.item(0, lane, 2, 1), INDEX);
            pairIs(x, 0, lane, 0, 0, 0);
            due(x.sheet(0, lane, 24), 24);
            due(x.degrees(0, lane, 22, 1), 15);
        }
    }

    @Sentence(in = "Promise 25", says = "BAD: also n above 24; SIZE: n below 0.")
    static void sheetIsBadAbove24AndSizeBelow0() {
        EvenErrors x = new EvenErrors();
        due(x.sheet(0, 0, 25), BAD);
        due(x.sheet(0, 0, MOST_INT), BAD);
        due(x.sheet(0, 0, -1), SIZE);
        due(x.sheet(0, 0, LEAST_INT), SIZE);
        due(x.drop(0), NULL);
        due(x.sheet(0, 0, 24), 24);
        due(x.sheet(0, 1, 25), BAD);
        due(x.sheet(0, 1, -1), SIZE);
        due(x.item(0, 0, 23, 1), 1);
        due(x.sheet(0, 0, 0), 0);
        for (int beyond : BEYOND_FOUR) {
            due(x.sheet(beyond, 0, 1), BAD);
            due(x.sheet(0, beyond, 1), BAD);
        }
        due(x.drop(0), 0);
    }

    @Sentence(in = "Promise 26", says = "A SHEET holds nothing: how many items it had. BAD; NULL.")
    static void dropIsNullWhereNothingIs() {
        EvenErrors x = new EvenErrors();
        due(x.drop(0), NULL);
        due(x.sheet(0, 2, 0), 0);
        due(x.drop(0), 0);
        due(x.drop(0), NULL);
        due(x.sheet(3, 2, 24), 24);
        due(x.drop(3), 24);
        due(x.drop(3), NULL);
        due(x.item(3, 2, 0, 1), NULL);
        due(x.film(3, 2, 0), NULL);
        due(x.sheet(3, 1, 1), 1);
        due(x.drop(3), 1);
    }

    @Sentence(in = "Promise 26", says = "BAD; NULL.")
    static void dropIsBadBeyondTheSheets() {
        EvenErrors x = new EvenErrors();
        for (int beyond : BEYOND_FOUR) {
            due(x.drop(beyond), BAD);
        }
    }

    @Sentence(in = "Promise 27", says = "becomes v, its lowest bits: 1.")
    static void anItemKeepsTheLowestBitsOfV() {
        EvenErrors x = new EvenErrors();
        for (int lane = 0; lane < 4; lane++) {
            int bits = 8 << lane;
            due(x.sheet(0, lane, 2), 2);
            long above = lane == 3 ? 0 : 0x0123456789abcdefL << bits;
            fill(x, 0, lane, 0, above + 2, above - 3);
            pairIs(x, 0, lane, 0, 2, -3);
            fill(x, 0, lane, 0, Long.MIN_VALUE, Long.MAX_VALUE);
            due(x.degrees(0, lane, 0, 1), lane == 3 ? NOT : 15);
        }
        // The least is 0, the most -1 in lower LANES.
        due(x.sheet(0, 2, 2), 2);
        fill(x, 0, 2, 0, Long.MIN_VALUE, Long.MAX_VALUE);
        pairIs(x, 0, 2, 0, 0, -1);
    }

    @Sentence(in = "Promise 27", says = "BAD; NULL; CAST; INDEX.")
    static void itemIsBadBeyondSheetAndLane() {
        EvenErrors x = new EvenErrors();
        due(x.sheet(0, 0, 1), 1);
        for (int beyond : BEYOND_FOUR) {
            due(x.item(beyond, 0, 0, 1), BAD);
            due(x.item(0, beyond, 0, 1), BAD);
        }
        due(x.item(0, 0, 0, 1), 1);
    }

    @Sentence(in = "Promise 27", says = "NULL; CAST; INDEX.")
    static void itemIsNullOrCastOrIndex() {
        EvenErrors x = new EvenErrors();
        due(x.item(0, 0, 0, 1), NULL);
        due(x.sheet(0, 1, 2), 2);
        due(x.item(0, 0, 0, 1), CAST);
        due(x.item(0, 1, 0, 1), 1);
        due(x.item(0, 1, 1, 1), 1);
        due(x.item(0, 1, 2, 1), INDEX);
        due(x.item(0, 1, -1, 1), INDEX);
        due(x.item(0, 1, LEAST_INT, 1), INDEX);
        due(x.item(0, 1, MOST_INT, 1), INDEX);
    }

    // ---- promise 28

    @Sentence(in = "Promise 28", says = "n items of a SHEET from i on come to another one (or the same) from j on, as if all were taken ahead: n.")
    static void aCopyOnItselfTakesAllAhead() {
        EvenErrors x = new EvenErrors();
        for (int lane = 0; lane < 4; lane++) {
            due(x.sheet(0, lane, 6), 6);
            fill(x, 0, lane, 0, 1, 10, 2, 20, 3, 30);
            due(x.copy(0, 0, 0, 2, 4), 4);
            pairIs(x, 0, lane, 0, 1, 10);
            pairIs(x, 0, lane, 2, 1, 10);
            pairIs(x, 0, lane, 4, 2, 20);
            fill(x, 0, lane, 0, 1, 10, 2, 20, 3, 30);
            due(x.copy(0, 2, 0, 0, 4), 4);
            pairIs(x, 0, lane, 0, 2, 20);
            pairIs(x, 0, lane, 2, 3, 30);
            pairIs(x, 0, lane, 4, 3, 30);
        }
        due(x.copy(0, 0, 0, 0, 6), 6);
        pairIs(x, 0, 3, 2, 3, 30);
    }

    @Sentence(in = "Promise 28", says = "n items of a SHEET from i on come to another one (or the same) from j on")
    static void aCopyOfNoneOrOfAllItems() {
        EvenErrors x = new EvenErrors();
        due(x.sheet(0, 0, 24), 24);
        due(x.sheet(1, 0, 24), 24);
        for (int k = 0; k < 24; k++) {
            due(x.item(0, 0, k, k % 2 == 0 ? 5 : k), 1);
        }
        due(x.copy(0, 0, 1, 0, 0), 0);
        pairIs(x, 1, 0, 0, 0, 0);
        pairIs(x, 1, 0, 22, 0, 0);
        due(x.copy(0, 0, 1, 0, 24), 24);
        pairIs(x, 1, 0, 0, 5, 1);
        pairIs(x, 1, 0, 22, 5, 23);
        pairIs(x, 0, 0, 22, 5, 23);
        due(x.copy(0, 22, 1, 0, 2), 2);
        pairIs(x, 1, 0, 0, 5, 23);
        pairIs(x, 1, 0, 2, 5, 3);
    }

    @Sentence(in = "Promise 28", says = "BAD; NULL (either); CAST: of unlike LANES;")
    static void copyIsBadBeyondTheSheets() {
        EvenErrors x = new EvenErrors();
        due(x.sheet(0, 0, 2), 2);
        for (int beyond : BEYOND_FOUR) {
            due(x.copy(beyond, 0, 0, 0, 1), BAD);
            due(x.copy(0, 0, beyond, 0, 1), BAD);
        }
    }

    @Sentence(in = "Promise 28", says = "NULL (either);")
    static void copyIsNullIfEitherHoldsNothing() {
        EvenErrors x = new EvenErrors();
        due(x.copy(0, 0, 1, 0, 1), NULL);
        due(x.copy(0, 0, 0, 0, 0), NULL);
        due(x.sheet(0, 0, 2), 2);
        due(x.copy(0, 0, 1, 0, 1), NULL);
        due(x.copy(1, 0, 0, 0, 1), NULL);
        due(x.copy(0, 0, 0, 0, 1), 1);
        due(x.sheet(1, 0, 2), 2);
        due(x.copy(0, 0, 1, 0, 1), 1);
    }

    @Sentence(in = "Promise 28", says = "CAST: of unlike LANES;")
    static void copyIsCastOfUnlikeLanes() {
        EvenErrors x = new EvenErrors();
        for (int from = 0; from < 4; from++) {
            for (int to = 0; to < 4; to++) {
                due(x.sheet(0, from, 2), 2);
                due(x.sheet(1, to, 2), 2);
                due(x.copy(0, 0, 1, 0, 2), from == to ? 2 : CAST);
                due(x.copy(0, 0, 1, 0, 0), from == to ? 0 : CAST);
            }
        }
    }

    @Sentence(in = "Promise 28", says = "INDEX (n below 0, too; with n 0, too, if i or j is above how many items there are).")
    static void copyIsIndexBeyondEitherSheet() {
        EvenErrors x = new EvenErrors();
        due(x.sheet(0, 0, 6), 6);
        due(x.sheet(1, 0, 4), 4);
        due(x.copy(0, 2, 1, 0, 4), 4);
        due(x.copy(0, 3, 1, 0, 4), INDEX);
        due(x.copy(0, 2, 1, 1, 4), INDEX);
        due(x.copy(0, 0, 1, 0, 5), INDEX);
        due(x.copy(1, 0, 0, 0, 5), INDEX);
        due(x.copy(0, -1, 1, 0, 1), INDEX);
        due(x.copy(0, 0, 1, -1, 1), INDEX);
        due(x.copy(0, 6, 1, 0, 1), INDEX);
        due(x.copy(0, 0, 1, 4, 1), INDEX);
        due(x.copy(0, MOST_INT, 1, 0, 1), INDEX);
        due(x.copy(0, 0, 1, MOST_INT, 1), INDEX);
        due(x.copy(0, 1, 1, 1, MOST_INT), INDEX);
        due(x.copy(0, LEAST_INT, 1, 0, LEAST_INT), INDEX);
    }

    @Sentence(in = "Promise 28", says = "INDEX (n below 0, too; with n 0, too, if i or j is above how many items there are).")
    static void copyIsIndexOfLessThanNone() {
        EvenErrors x = new EvenErrors();
        due(x.sheet(0, 0, 6), 6);
        due(x.copy(0, 0, 0, 0, -1), INDEX);
        due(x.copy(0, 3, 0, 3, -1), INDEX);
        due(x.copy(0, 6, 0, 6, -6), INDEX);
        due(x.copy(0, 0, 0, 0, LEAST_INT), INDEX);
        due(x.copy(0, 6, 0, 6, 0), 0);
        due(x.copy(0, 7, 0, 6, 0), INDEX);
        due(x.copy(0, 6, 0, 7, 0), INDEX);
    }
}
