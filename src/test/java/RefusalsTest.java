import java.util.Arrays;

/**
 * The document's paragraph of REFUSALS and each promise's own: on both sides of its edge, and where two fit one call.
 * Each refused call is made on an object that has something of everything: the number is answered and counted, all
 * else stays. An object of Seen.some() has 9 teeth, WHEELS 0 and 1, in LIST 0 a number that is no tooth, LIST 1 of
 * size 0, LIST 2 missing, 7 letters, two calls to undo, an IMAGE.
 */
public final class RefusalsTest {
    private static final Due DUE = new Due("RefusalsTest");
    private static final int LEAST = Integer.MIN_VALUE;
    private static final int GREATEST = Integer.MAX_VALUE;

    public static void main(String[] args) {
        promise2Letter();
        promise4Ring();
        promise5Wheel();
        promise6Of();
        promise7Change();
        promises8And9PutsAndNext();
        promise10Ratio();
        promises11And12WearsAndTooth();
        promise13Drawing();
        promises14And15ArcAndCrosses();
        promises16And17BehindAndBetween();
        promise18Mirror();
        promise20Odds();
        promise21Touch();
        promise22Meet();
        promise23Crowd();
        promise24Roll();
        promises25And26InkedAndAhead();
        promise27Fits();
        promise28Kinds();
        promise29DrawnBy();
        promise30Judge();
        promise31Lots();
        promise32List();
        promises33And34PutAndLook();
        promise35Lays();
        promises36And38UndoAndOn();
        nobodyWithoutWheels();
        countedOnceEach();
        DUE.close();
    }

    private static boolean isLong(String call) {
        return call.equals("ratio") || call.equals("odds") || call.equals("fits") || call.equals("look");
    }

    /** A call is refused on both of two like objects of which one tells what stays. */
    private static void refused(int promise, WheelOnWheel x, WheelOnWheel y, int number, String call, int... numbers) {
        String told = Seen.told(call, numbers);
        int[] due = Seen.refusals(x);
        if (number >= -6) {
            due[-number]++;
        }
        DUE.is(promise, told, Seen.call(x, call, numbers), isLong(call) ? Due.refusal(number) : number);
        DUE.is(promise, told + ": alike REFUSALS", Arrays.equals(Seen.refusals(x), due) ? 1 : 0, 1);
        DUE.is(promise, told + ": all else stays", Seen.wholly(x).equals(Seen.wholly(y)) ? 1 : 0, 1);
    }

    private static void refused(int promise, int number, String call, int... numbers) {
        refused(promise, Seen.some(), Seen.some(), number, call, numbers);
    }

    /** A call is taken: it answers what is due, and no REFUSAL is counted. */
    private static void taken(int promise, long due, String call, int... numbers) {
        WheelOnWheel x = Seen.some();
        int[] refusals = Seen.refusals(x);
        String told = Seen.told(call, numbers);
        DUE.is(promise, told, Seen.call(x, call, numbers), due);
        DUE.is(promise, told + ": no REFUSAL", Arrays.equals(Seen.refusals(x), refusals) ? 1 : 0, 1);
    }

    /** "-4; -6 (255; 72, too)" */
    private static void promise2Letter() {
        refused(2, -4, "letter", -1);
        refused(2, -4, "letter", LEAST);
        taken(2, 8, "letter", 0);
        taken(2, 8, "letter", 255);
        refused(2, -6, "letter", 256);
        refused(2, -6, "letter", GREATEST);
        WheelOnWheel x = Seen.some();
        WheelOnWheel y = Seen.some();
        for (int i = 8; i <= 72; i++) {
            DUE.is(2, "letter " + i, x.letter('0'), i);
            y.letter('0');
        }
        refused(2, x, y, -6, "letter", 'x');
    }

    /** "-4 3; -6 60; -3 a WHEEL whose SIZE or AT isn't less" */
    private static void promise4Ring() {
        refused(4, -4, "ring", LEAST);
        refused(4, -4, "ring", 2);
        refused(4, -3, "ring", 3);
        refused(4, -3, "ring", 8);
        taken(4, 9, "ring", 9);
        taken(4, 9, "ring", 60);
        refused(4, -6, "ring", 61);
        refused(4, -6, "ring", GREATEST);
    }

    /** "-2 KIND; -4 (SIZE 1, FIGURE, PACE 1); -6 (SIZE: R less 1; 9; 9; six there are); -1 the tooth" */
    private static void promise5Wheel() {
        refused(5, -2, "wheel", -1, 1, 0, 0, 1);
        taken(5, 2, "wheel", 0, 1, 0, 0, 1);
        taken(5, 2, "wheel", 5, 8, 9, 8, 9);
        refused(5, -2, "wheel", 6, 1, 0, 0, 1);
        refused(5, -4, "wheel", 0, 0, 0, 0, 1);
        refused(5, -4, "wheel", 0, 1, -1, 0, 1);
        refused(5, -4, "wheel", 0, 1, 0, 0, 0);
        refused(5, -6, "wheel", 0, 9, 0, 0, 1);
        refused(5, -6, "wheel", 0, 1, 10, 0, 1);
        refused(5, -6, "wheel", 0, 1, 0, 0, 10);
        refused(5, -1, "wheel", 0, 1, 0, 9, 1);
        refused(5, -1, "wheel", 0, 1, 0, -1, 1);
        // Two and more that fit.
        refused(5, -2, "wheel", 6, 0, 0, 0, 1);
        refused(5, -2, "wheel", 6, 9, 0, 0, 1);
        refused(5, -2, "wheel", 6, 1, 0, 9, 1);
        refused(5, -4, "wheel", 0, 0, 10, 0, 1);
        refused(5, -4, "wheel", 0, 0, 0, 0, 10);
        refused(5, -4, "wheel", 0, 9, -1, 0, 1);
        refused(5, -4, "wheel", 0, 9, 0, 0, 0);
        refused(5, -4, "wheel", 0, 1, 10, 0, 0);
        refused(5, -4, "wheel", 0, 1, -1, 0, 10);
        refused(5, -4, "wheel", 0, 0, -1, 0, 0);
        refused(5, -4, "wheel", 0, 0, 0, 9, 1);
        refused(5, -6, "wheel", 0, 9, 0, 9, 1);
        refused(5, -6, "wheel", 0, 1, 10, 9, 1);
        refused(5, -6, "wheel", 0, 1, 0, -1, 10);
        refused(5, -6, "wheel", 0, GREATEST, GREATEST, GREATEST, GREATEST);
        refused(5, -2, "wheel", LEAST, LEAST, LEAST, LEAST, LEAST);
        refusedAsSeventh(-6, 0, 1, 0, 0, 1);
        refusedAsSeventh(-6, 0, 1, 0, 9, 1);
        refusedAsSeventh(-4, 0, 0, 0, 9, 1);
        refusedAsSeventh(-2, 6, 0, 0, 9, 1);
    }

    private static void refusedAsSeventh(int number, int... numbers) {
        refused(5, someWithSix(), someWithSix(), number, "wheel", numbers);
    }

    private static WheelOnWheel someWithSix() {
        WheelOnWheel x = Seen.some();
        for (int wheel = 2; wheel < 6; wheel++) {
            x.wheel(0, 1, 0, 0, 1);
        }
        return x;
    }

    /** "-1; -2" */
    private static void promise6Of() {
        refused(6, -1, "of", -1, 0);
        taken(6, 0, "of", 0, 0);
        taken(6, 4, "of", 1, 0);
        refused(6, -1, "of", 2, 0);
        refused(6, -1, "of", LEAST, 0);
        refused(6, -1, "of", GREATEST, 0);
        refused(6, -2, "of", 0, -1);
        taken(6, 7, "of", 0, 7);
        refused(6, -2, "of", 0, 8);
        refused(6, -1, "of", 2, 8);
        refused(6, -1, "of", -1, -1);
    }

    /** "-1; -2; -4; -6" */
    private static void promise7Change() {
        refused(7, -1, "change", -1, 1, 1);
        refused(7, -1, "change", 2, 1, 1);
        refused(7, -2, "change", 0, 0, 1);
        refused(7, -2, "change", 0, 4, 1);
        int[] leasts = {1, 0, 1};
        int[] mosts = {8, 9, 9};
        int[] were = {4, 0, 2};
        for (int what = 1; what <= 3; what++) {
            refused(7, -4, "change", 0, what, leasts[what - 1] - 1);
            taken(7, were[what - 1], "change", 0, what, leasts[what - 1]);
            taken(7, were[what - 1], "change", 0, what, mosts[what - 1]);
            refused(7, -6, "change", 0, what, mosts[what - 1] + 1);
            refused(7, -4, "change", 0, what, LEAST);
            refused(7, -6, "change", 0, what, GREATEST);
            refused(7, -1, "change", 2, what, leasts[what - 1] - 1);
            refused(7, -1, "change", 2, what, mosts[what - 1] + 1);
        }
        refused(7, -1, "change", 2, 0, 1);
        refused(7, -1, "change", -1, 4, -1);
        refused(7, -2, "change", 0, 0, -1);
        refused(7, -2, "change", 0, 4, -1);
        refused(7, -2, "change", 0, 0, 99);
        refused(7, -2, "change", 0, 4, 99);
    }

    /** "-1 either": both at once are one REFUSAL. */
    private static void promises8And9PutsAndNext() {
        String[] calls = {"puts", "next"};
        for (int i = 0; i < 2; i++) {
            int promise = 8 + i;
            refused(promise, -1, calls[i], -1, 0);
            refused(promise, -1, calls[i], 2, 0);
            refused(promise, -1, calls[i], 0, -1);
            refused(promise, -1, calls[i], 0, 9);
            refused(promise, -1, calls[i], 2, 9);
            refused(promise, -1, calls[i], -1, -1);
            refused(promise, -1, calls[i], GREATEST, LEAST);
        }
        taken(8, 3, "puts", 0, 0);
        taken(8, 3, "puts", 0, 8);
        taken(9, 4, "next", 0, 0);
        taken(9, 3, "next", 0, 8);
    }

    /** "Refused as told of longs: -1; -2" */
    private static void promise10Ratio() {
        refused(10, -1, "ratio", -1, 0);
        refused(10, -1, "ratio", 2, 0);
        taken(10, 5, "ratio", 0, 0);
        taken(10, 4, "ratio", 0, 1);
        refused(10, -2, "ratio", 0, -1);
        refused(10, -2, "ratio", 0, 2);
        refused(10, -1, "ratio", 2, 2);
        DUE.is(10, "-1 as", Seen.some().ratio(2, 2), 4000000000000000001L);
        DUE.is(10, "-2 as", Seen.some().ratio(0, 2), 4000000000000000002L);
    }

    /** "-1" of wears; "-1; -2" of tooth */
    private static void promises11And12WearsAndTooth() {
        refused(11, -1, "wears", -1);
        taken(11, 1, "wears", 0);
        taken(11, 1, "wears", 8);
        taken(11, 0, "wears", 5);
        refused(11, -1, "wears", 9);
        refused(11, -1, "wears", LEAST);
        refused(11, -1, "wears", GREATEST);
        refused(12, -1, "tooth", -1, 0);
        taken(12, 0, "tooth", 0, 0);
        taken(12, 1, "tooth", 5, 0);
        taken(12, 0, "tooth", 8, 0);
        refused(12, -1, "tooth", 9, 0);
        refused(12, -2, "tooth", 0, -1);
        taken(12, 1, "tooth", 0, 1);
        refused(12, -2, "tooth", 0, 2);
        refused(12, -1, "tooth", 9, 2);
        refused(12, -1, "tooth", -1, -1);
    }

    /** "-1; -2" */
    private static void promise13Drawing() {
        refused(13, -1, "drawing", -1, 0);
        refused(13, -1, "drawing", 2, 0);
        refused(13, -2, "drawing", 0, -1);
        taken(13, 0, "drawing", 0, 0);
        taken(13, 0, "drawing", 0, 7);
        refused(13, -2, "drawing", 0, 8);
        refused(13, -1, "drawing", 2, 8);
        refused(13, -1, "drawing", -1, -1);
    }

    /** "-1; -4" */
    private static void promises14And15ArcAndCrosses() {
        String[] calls = {"arc", "crosses"};
        long[][] dues = {{3, 8, -9, -9}, {6, 6, -9, -9}};
        int[] arcs = {0, 8, 9, GREATEST};
        for (int i = 0; i < 2; i++) {
            int promise = 14 + i;
            refused(promise, -1, calls[i], -1, 0);
            refused(promise, -1, calls[i], 2, 0);
            refused(promise, -4, calls[i], 0, -1);
            refused(promise, -4, calls[i], 0, LEAST);
            refused(promise, -1, calls[i], 2, -1);
            refused(promise, -1, calls[i], -1, GREATEST);
            for (int k = 0; k < arcs.length; k++) {
                taken(promise, dues[i][k], calls[i], 0, arcs[k]);
            }
        }
    }

    /** "-1 either" */
    private static void promises16And17BehindAndBetween() {
        refused(16, -1, "behind", -1, 0);
        refused(16, -1, "behind", 2, 0);
        refused(16, -1, "behind", 0, -1);
        refused(16, -1, "behind", 0, 9);
        refused(16, -1, "behind", 2, 9);
        taken(16, 0, "behind", 0, 0);
        taken(16, 8, "behind", 0, 8);
        refused(17, -1, "between", -1, 0);
        refused(17, -1, "between", 2, 0);
        refused(17, -1, "between", 0, -1);
        refused(17, -1, "between", 0, 2);
        refused(17, -1, "between", 2, 2);
        refused(17, -1, "between", GREATEST, LEAST);
        taken(17, 54, "between", 0, 0);
    }

    /** "-1 either; -2" */
    private static void promise18Mirror() {
        for (int what = 0; what < 2; what++) {
            refused(18, -1, "mirror", -1, 0, what);
            refused(18, -1, "mirror", 2, 0, what);
            refused(18, -1, "mirror", 0, -1, what);
            refused(18, -1, "mirror", 0, 2, what);
            taken(18, 0, "mirror", 0, 0, what);
        }
        refused(18, -2, "mirror", 0, 1, -1);
        refused(18, -2, "mirror", 0, 1, 2);
        refused(18, -1, "mirror", 2, 0, 2);
        refused(18, -1, "mirror", 0, 2, 2);
        refused(18, -1, "mirror", -1, 2, -1);
    }

    /** "Refused as told of longs: -1; -2" */
    private static void promise20Odds() {
        refused(20, -1, "odds", -1, 0);
        refused(20, -1, "odds", 2, 0);
        taken(20, 1, "odds", 0, 0);
        taken(20, 1, "odds", 0, 1);
        refused(20, -2, "odds", 0, -1);
        refused(20, -2, "odds", 0, 2);
        refused(20, -1, "odds", 2, 2);
        DUE.is(20, "-1 as", Seen.some().odds(2, 2), 4000000000000000001L);
    }

    /** "-1; -4; -6 99; -2" */
    private static void promise21Touch() {
        int[] noSets = {LEAST, -1, 0, 4, 5, 7, 63, GREATEST};
        for (int set : noSets) {
            refused(21, -1, "touch", set, 0, 0);
        }
        taken(21, 2, "touch", 1, 0, 0);
        taken(21, 7, "touch", 1, 0, 1);
        taken(21, 0, "touch", 3, 0, 2);
        refused(21, -4, "touch", 1, -1, 0);
        taken(21, 200, "touch", 1, 99, 0);
        refused(21, -6, "touch", 1, 100, 0);
        refused(21, -2, "touch", 1, 0, -1);
        refused(21, -2, "touch", 1, 99, 3);
        refused(21, -1, "touch", 0, -1, 0);
        refused(21, -1, "touch", 4, 100, 0);
        refused(21, -1, "touch", 4, 0, 3);
        refused(21, -4, "touch", 1, -1, 3);
        refused(21, -4, "touch", 1, LEAST, -1);
        refused(21, -6, "touch", 1, 100, 3);
        refused(21, -6, "touch", 1, GREATEST, -1);
    }

    /** "-1; -2" */
    private static void promise22Meet() {
        int[] noSets = {LEAST, -1, 0, 4, 5, 7, 63, GREATEST};
        for (int set : noSets) {
            refused(22, -1, "meet", set, 0);
        }
        taken(22, -9, "meet", 1, 0);
        taken(22, -9, "meet", 1, 1);
        refused(22, -2, "meet", 1, -1);
        refused(22, -2, "meet", 3, 2);
        refused(22, -1, "meet", 0, 2);
        refused(22, -1, "meet", 4, -1);
    }

    /** "-1; -4; -6 100; -2" */
    private static void promise23Crowd() {
        int[] noSets = {LEAST, -1, 0, 4, 5, 7, 63, GREATEST};
        for (int set : noSets) {
            refused(23, -1, "crowd", set, 0, 0);
        }
        refused(23, -4, "crowd", 1, -1, 0);
        taken(23, -9, "crowd", 1, 0, 0);
        taken(23, 0, "crowd", 1, 0, 2);
        taken(23, 12, "crowd", 1, 100, 1);
        refused(23, -6, "crowd", 1, 101, 0);
        refused(23, -2, "crowd", 1, 0, -1);
        refused(23, -2, "crowd", 1, 100, 3);
        refused(23, -1, "crowd", 0, -1, 0);
        refused(23, -1, "crowd", 4, 101, 0);
        refused(23, -1, "crowd", 4, 1, 3);
        refused(23, -4, "crowd", 1, -1, 3);
        refused(23, -6, "crowd", 1, 101, 3);
        refused(23, -6, "crowd", 1, GREATEST, -1);
    }

    /** "-1; -4; -6" */
    private static void promise24Roll() {
        refused(24, -1, "roll", -1, 1);
        refused(24, -1, "roll", 2, 1);
        refused(24, -4, "roll", 0, 0);
        refused(24, -4, "roll", 0, LEAST);
        taken(24, 7, "roll", 0, 1);
        taken(24, 1, "roll", 0, 40);
        refused(24, -6, "roll", 0, 41);
        refused(24, -6, "roll", 0, GREATEST);
        refused(24, -1, "roll", 2, 0);
        refused(24, -1, "roll", 2, 41);
    }

    /** "-2" of inked; "-1" of ahead */
    private static void promises25And26InkedAndAhead() {
        refused(25, -2, "inked", -1);
        taken(25, 5, "inked", 0);
        taken(25, 0, "inked", 1);
        taken(25, 8, "inked", 2);
        taken(25, 0, "inked", 3);
        refused(25, -2, "inked", 4);
        refused(25, -2, "inked", LEAST);
        refused(26, -1, "ahead", -1);
        taken(26, 0, "ahead", 0);
        taken(26, 8, "ahead", 8);
        refused(26, -1, "ahead", 9);
        refused(26, -1, "ahead", GREATEST);
    }

    /** "Refused as told of longs: -1; -2; -4; -6 9; -11; -3 a number that is no tooth" */
    private static void promise27Fits() {
        refused(27, -1, "fits", -1, 0, 0);
        refused(27, -1, "fits", 3, 0, 0);
        taken(27, 510, "fits", 1, 0, 0);
        taken(27, 510, "fits", 1, 5, 9);
        refused(27, -2, "fits", 1, -1, 0);
        refused(27, -2, "fits", 1, 6, 0);
        refused(27, -4, "fits", 1, 0, -1);
        refused(27, -6, "fits", 1, 0, 10);
        refused(27, -11, "fits", 2, 0, 0);
        refused(27, -3, "fits", 0, 0, 0);
        refused(27, -1, "fits", 3, 6, 0);
        refused(27, -1, "fits", 3, 0, -1);
        refused(27, -1, "fits", -1, 0, 10);
        refused(27, -2, "fits", 1, 6, -1);
        refused(27, -2, "fits", 1, -1, 10);
        refused(27, -2, "fits", 2, 6, 0);
        refused(27, -2, "fits", 0, 6, 0);
        refused(27, -4, "fits", 2, 0, -1);
        refused(27, -4, "fits", 0, 0, -1);
        refused(27, -6, "fits", 2, 0, 10);
        refused(27, -6, "fits", 0, 0, 10);
        long[] longs = {4000000000000000001L, 4000000000000000002L, 4000000000000000004L, 4000000000000000006L,
            4000000000000000011L, 4000000000000000003L};
        int[][] calls = {{3, 0, 0}, {1, 6, 0}, {1, 0, -1}, {1, 0, 10}, {2, 0, 0}, {0, 0, 0}};
        for (int i = 0; i < longs.length; i++) {
            DUE.is(27, Seen.told("fits", calls[i]), Seen.call(Seen.some(), "fits", calls[i]), longs[i]);
        }
    }

    /** "-1 either; -2; -11; -3 a number that is no tooth" */
    private static void promise28Kinds() {
        refused(28, -1, "kinds", -1, 0, 0);
        refused(28, -1, "kinds", 3, 0, 0);
        refused(28, -1, "kinds", 1, -1, 0);
        refused(28, -1, "kinds", 1, 2, 0);
        taken(28, 63, "kinds", 1, 0, 0);
        taken(28, 1023, "kinds", 1, 0, 1);
        refused(28, -2, "kinds", 1, 0, -1);
        refused(28, -2, "kinds", 1, 0, 2);
        for (int what = 0; what < 2; what++) {
            refused(28, -11, "kinds", 2, 0, what);
            refused(28, -3, "kinds", 0, 0, what);
            refused(28, -1, "kinds", 2, 2, what);
            refused(28, -1, "kinds", 0, 2, what);
        }
        refused(28, -1, "kinds", 3, 0, 2);
        refused(28, -1, "kinds", 1, 2, 2);
        refused(28, -1, "kinds", 3, 2, 2);
        refused(28, -2, "kinds", 2, 0, 2);
        refused(28, -2, "kinds", 0, 0, -1);
    }

    /** "-4 either" */
    private static void promise29DrawnBy() {
        refused(29, -4, "drawnBy", -1, 0);
        refused(29, -4, "drawnBy", 0, -1);
        refused(29, -4, "drawnBy", -1, -1);
        refused(29, -4, "drawnBy", LEAST, GREATEST);
        taken(29, -9, "drawnBy", 0, 0);
        taken(29, 1, "drawnBy", 9, 0);
        taken(29, -9, "drawnBy", GREATEST, GREATEST);
    }

    /** "-1 either; -11" */
    private static void promise30Judge() {
        refused(30, -1, "judge", -1, 0);
        refused(30, -1, "judge", 3, 0);
        refused(30, -1, "judge", 1, -1);
        refused(30, -1, "judge", 1, 2);
        taken(30, -9, "judge", 1, 0);
        taken(30, 0, "judge", 0, 0);
        refused(30, -11, "judge", 2, 0);
        refused(30, -1, "judge", 2, 2);
        refused(30, -1, "judge", 3, 2);
    }

    /** "-4 below 1; -6 50; -2; -3 no WHEELS" */
    private static void promise31Lots() {
        refused(31, -4, "lots", 0, 5, 0);
        refused(31, -4, "lots", LEAST, 5, 0);
        refused(31, -6, "lots", 51, 5, 0);
        refused(31, -6, "lots", GREATEST, 5, 0);
        refused(31, -2, "lots", 1, 5, -1);
        refused(31, -2, "lots", 50, 5, 2);
        refused(31, -4, "lots", 0, 5, 2);
        refused(31, -6, "lots", 51, 5, 2);
        int[][] calls = {{0, 5, 2}, {0, 5, 0}, {51, 5, 2}, {51, 5, 0}, {1, 5, 2}, {50, 5, -1}, {1, 5, 0}, {50, 5, 1}};
        int[] due = {-4, -4, -6, -6, -2, -2, -3, -3};
        for (int i = 0; i < due.length; i++) {
            refused(31, withoutWheels(), withoutWheels(), due[i], "lots", calls[i]);
        }
    }

    private static WheelOnWheel withoutWheels() {
        WheelOnWheel x = Due.withRing(9);
        x.image();
        x.wears(5);
        return x;
    }

    /** "-1; -6 40; -14" */
    private static void promise32List() {
        refused(32, -1, "list", -1, 1);
        refused(32, -1, "list", 3, 1);
        taken(32, 1, "list", 0, 0);
        taken(32, 1, "list", 2, 40);
        refused(32, -6, "list", 0, 41);
        refused(32, -6, "list", 0, GREATEST);
        refused(32, -14, "list", 0, -1);
        refused(32, -14, "list", 0, LEAST);
        refused(32, -1, "list", 3, 41);
        refused(32, -1, "list", -1, -1);
    }

    /** "-1; -11; -13" */
    private static void promises33And34PutAndLook() {
        int[][] places = {{-1, 0}, {3, 0}, {2, 0}, {0, -1}, {0, 3}, {1, 0}, {0, LEAST}, {0, GREATEST},
            {3, -1}, {-1, GREATEST}, {2, -1}, {2, 40}};
        int[] due = {-1, -1, -11, -13, -13, -13, -13, -13,
            -1, -1, -11, -11};
        for (int i = 0; i < due.length; i++) {
            refused(33, due[i], "put", places[i][0], places[i][1], 5);
            refused(34, due[i], "look", places[i]);
        }
        taken(33, 1, "put", 0, 0, LEAST);
        taken(33, 1, "put", 0, 2, GREATEST);
        taken(34, 8, "look", 0, 0);
        taken(34, 9, "look", 0, 2);
        DUE.is(34, "-11 as", Seen.some().look(2, 0), 4000000000000000011L);
        DUE.is(34, "-13 as", Seen.some().look(0, 3), 4000000000000000013L);
    }

    /** "-1 either; -11; -13 no such place (with the size of the LIST, too)" */
    private static void promise35Lays() {
        refused(35, -1, "lays", -1, 0, 0);
        refused(35, -1, "lays", 3, 0, 0);
        refused(35, -1, "lays", 0, 0, -1);
        refused(35, -1, "lays", 0, 0, 2);
        refused(35, -11, "lays", 2, 0, 0);
        refused(35, -13, "lays", 0, -1, 0);
        taken(35, 3, "lays", 0, 0, 0);
        taken(35, 1, "lays", 0, 2, 0);
        refused(35, -13, "lays", 0, 3, 0);
        refused(35, -13, "lays", 1, 0, 0);
        refused(35, -1, "lays", 3, -1, 0);
        refused(35, -1, "lays", 2, 0, 2);
        refused(35, -1, "lays", 0, 3, 2);
        refused(35, -1, "lays", 3, 0, 2);
        refused(35, -11, "lays", 2, -1, 0);
        refused(35, -11, "lays", 2, 40, 0);
    }

    /** "-3 there is none", "-3 there is no IMAGE" */
    private static void promises36And38UndoAndOn() {
        taken(36, 1, "undo");
        taken(38, 1, "on");
        WheelOnWheel x = new WheelOnWheel();
        WheelOnWheel y = new WheelOnWheel();
        refused(36, x, y, -3, "undo");
        refused(38, new WheelOnWheel(), new WheelOnWheel(), -3, "on");
    }

    /** "-1 NOBODY: no such WHEEL": there is none at first. */
    private static void nobodyWithoutWheels() {
        String[] calls = {"of", "change", "puts", "next", "ratio", "drawing", "arc", "crosses", "behind", "between", "mirror",
            "odds", "touch", "meet", "crowd", "roll"};
        int[] counts = {2, 3, 2, 2, 2, 2, 2, 2, 2, 2, 3, 2, 3, 2, 3, 2};
        for (int i = 0; i < calls.length; i++) {
            refused(0, withoutWheels(), withoutWheels(), -1, calls[i], new int[counts[i]]);
        }
        for (String call : new String[] {"kinds", "judge", "lays"}) {
            WheelOnWheel x = withoutWheels();
            WheelOnWheel y = withoutWheels();
            x.list(0, 1);
            y.list(0, 1);
            refused(0, x, y, -1, call, new int[call.equals("judge") ? 2 : 3]);
        }
    }

    /** "nothing changes but how many there were": those of ints and of longs, each in its own count. */
    private static void countedOnceEach() {
        WheelOnWheel x = Seen.some();
        x.of(9, 9);
        x.ratio(9, 9);
        x.odds(0, 9);
        x.ring(3);
        x.fits(0, 0, 0);
        x.fits(0, 0, -1);
        x.fits(0, 0, 10);
        x.fits(2, 0, 0);
        x.look(2, 0);
        x.look(0, 3);
        x.list(0, -1);
        x.put(0, 3, 0);
        int[] due = {2, 1, 2, 1, 0, 1};
        for (int i = 0; i < due.length; i++) {
            DUE.is(39, "count(" + (11 + i) + ")", x.count(11 + i), due[i]);
        }
    }
}
