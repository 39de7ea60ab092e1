import java.util.ArrayList;
import java.util.List;

/** What the tests of sentences share. Each fault is told by the line of the test that found it. */
abstract class Boundaries {
    static final long BAD = -1, NOT = -2, FULL = -3, NONE = -4, NULL = -11, CAST = -12, INDEX = -13, SIZE = -14;
    static final int LEAST_INT = Integer.MIN_VALUE;
    static final int MOST_INT = Integer.MAX_VALUE;
    /** Where pairs are put to look at them. */
    private static final int LOOKED_AT = 3;
    static final List<String> FAULTS = new ArrayList<>();
    private static int asked = 0;

    static int asked() {
        return asked;
    }

    static void due(long got, long want) {
        asked++;
        if (got != want) {
            FAULTS.add(where() + ": answered " + got + ", due is " + want);
        }
    }

    private static String where() {
        StringBuilder lines = new StringBuilder();
        for (StackTraceElement at : new Throwable().getStackTrace()) {
            boolean own = at.getClassName().matches("[A-Z][a-z]+(Boundaries|Sentences)");
            if (own && lines.length() == 0) {
                lines.append(at.getFileName()).append(':').append(at.getLineNumber());
            } else if (own) {
                lines.append(" from line ").append(at.getLineNumber());
            }
        }
        return lines.toString();
    }

    /** All letters typed, then read. */
    static long read(EvenErrors x, String letters) {
        for (int k = 0; k < letters.length(); k++) {
            due(x.type(letters.charAt(k)), k + 1);
        }
        return x.read();
    }

    static EvenErrors of(String letters) {
        EvenErrors x = new EvenErrors();
        if (read(x, letters) < 0) {
            FAULTS.add(where() + ": no TEXT: " + letters);
        }
        return x;
    }

    static int bits(int... xs) {
        int set = 0;
        for (int x : xs) {
            set |= 1 << x + 6;
        }
        return set;
    }

    static void least(EvenErrors x, long above, long below) {
        due(x.best(0), above);
        due(x.best(1), below);
    }

    static void part(EvenErrors x, int j, long above, long below, long sign) {
        due(x.part(j, 0), above);
        due(x.part(j, 1), below);
        due(x.part(j, 2), sign);
    }

    static void value(EvenErrors x, int at, long above, long below, long sign) {
        due(x.value(at, 0), above);
        due(x.value(at, 1), below);
        due(x.value(at, 2), sign);
    }

    static void error(EvenErrors x, int at, long above, long below, long sign) {
        due(x.error(at, 0), above);
        due(x.error(at, 1), below);
        due(x.error(at, 2), sign);
    }

    static void level(EvenErrors x, int set, long above, long below, long lean) {
        due(x.level(set, 0), above);
        due(x.level(set, 1), below);
        due(x.level(set, 2), lean);
    }

    static void step(EvenErrors x, int k, int set, long above, long below) {
        due(x.step(k, 0), set);
        due(x.step(k, 1), above);
        due(x.step(k, 2), below);
    }

    static void exchanged(EvenErrors x, int k, int comes, int goes) {
        due(x.step(k, 3), comes + 6);
        due(x.step(k, 4), goes + 6);
    }

    static void lastStep(EvenErrors x, int k) {
        due(x.step(k, 3), NONE);
        due(x.step(k, 4), NONE);
        due(x.step(k + 1, 0), NONE);
        due(x.best(6), k + 1);
    }

    static void lost(EvenErrors x, int c, long above, long below) {
        due(x.lost(c, 0), above);
        due(x.lost(c, 1), below);
    }

    static void fill(EvenErrors x, int sheet, int lane, int from, long... items) {
        for (int k = 0; k < items.length; k++) {
            due(x.item(sheet, lane, from + k, items[k]), 1);
        }
    }

    /**
     * Items are seen through `degrees` alone: a pair is looked at beside a second one, in SHEET 3, which is NOT
     * if both x are alike, and of degree 0 if both y are.
     */
    static void pairIs(EvenErrors e, int sheet, int lane, int i, int x, int y) {
        due(e.sheet(LOOKED_AT, lane, 4), 4);
        due(e.copy(sheet, i, LOOKED_AT, 0, 2), 2);
        fill(e, LOOKED_AT, lane, 2, x, y);
        due(e.degrees(LOOKED_AT, lane, 0, 1), 15);
        due(e.degrees(LOOKED_AT, lane, 0, 2), NOT);
        fill(e, LOOKED_AT, lane, 2, x == 6 ? 5 : x + 1);
        due(e.degrees(LOOKED_AT, lane, 0, 2), 15);
    }

    /** The state of a new object, but for SHEETS, an IMAGE and THE TAPE; asking doesn't change it. */
    static void isAsNew(EvenErrors x) {
        due(x.count(0), 1);
        due(x.count(1), 0);
        due(x.count(2), 0);
        due(x.count(6), 0);
        due(x.under(0, 1), NOT);
        due(x.under(1, 0), NOT);
        due(x.under(2, 0), NOT);
        drawIs(x, 1);
    }

    static void drawIs(EvenErrors x, int draw) {
        due(x.seed(draw), draw);
    }
}
