/** Edges of the document's part 3, its second half: lists, what is told in them; and of part 4: lots. */
public final class EdgesOfListsTest {
    private static final Due DUE = new Due("EdgesOfListsTest");
    private static final int LEAST = Integer.MIN_VALUE;
    private static final int GREATEST = Integer.MAX_VALUE;

    public static void main(String[] args) {
        lists0To2();
        sizesUpTo40();
        missingAtFirst();
        sizeOf0();
        aRowAnewIsAll0();
        placesUpToTheSize();
        anyNumberInAPlace();
        numbersThatAreTeeth();
        numbersThatAreNoTeeth();
        fitsFrom1ToRLess1();
        fitsAllByFewerThanTwo();
        fitsByForty();
        fitsWhenAllAreWorn();
        kindsAllByFewerThanTwo();
        kindsElseAsItIs();
        drawnByTheLeast();
        drawnByNone();
        judgedAtTheFirstPlace();
        judgedLessOrMore();
        judgedMoreThanThereAre();
        judgedFewer();
        laysAsManyAsHaveAPlace();
        laysAtTheLastPlace();
        lotsFrom1To50();
        lotsOfOneWheel();
        lotsOfAnySeed();
        lotsOneBehindTheOther();
        DUE.close();
    }

    /** "LISTS 0 .. 2" */
    private static void lists0To2() {
        WheelOnWheel x = Due.with(24, 0, 6, 0, 2);
        int[] lists = {-1, 0, 1, 2, 3, LEAST, GREATEST};
        for (int list : lists) {
            boolean is = list >= 0 && list <= 2;
            long none = Due.refusal(-1);
            DUE.is(32, "list(" + list + ", 1)", x.list(list, 1), is ? 1 : -1);
            DUE.is(33, "put(" + list + ", 0, 2)", x.put(list, 0, 2), is ? 1 : -1);
            DUE.is(34, "look(" + list + ", 0)", x.look(list, 0), is ? 2 : none);
            DUE.is(27, "fits(" + list + ", 0, 0)", x.fits(list, 0, 0), is ? (1L << 24) - 2 : none);
            DUE.is(28, "kinds(" + list + ", 0, 0)", x.kinds(list, 0, 0), is ? 63 : -1);
            DUE.is(30, "judge(" + list + ", 0)", x.judge(list, 0), is ? -9 : -1);
            DUE.is(35, "lays(" + list + ", 0, 0)", x.lays(list, 0, 0), is ? 1 : -1);
        }
    }

    /** "40 ints at most" */
    private static void sizesUpTo40() {
        WheelOnWheel x = new WheelOnWheel();
        DUE.is(32, "40", x.list(0, 40), 1);
        DUE.is(33, "place 39", x.put(0, 39, 5), 1);
        DUE.is(33, "place 40", x.put(0, 40, 5), -13);
        DUE.is(32, "41", x.list(0, 41), -6);
        DUE.is(32, "the greatest", x.list(0, GREATEST), -6);
        DUE.is(34, "it stays", x.look(0, 39), 5);
        DUE.is(32, "-1", x.list(0, -1), -14);
        DUE.is(32, "the least", x.list(0, LEAST), -14);
        DUE.is(34, "it stays", x.look(0, 39), 5);
        DUE.is(39, "-6 is counted", x.count(16), 2);
        DUE.is(39, "-14 isn't", x.count(11) + x.count(12) + x.count(13) + x.count(14) + x.count(15), 0);
    }

    /** "missing at first" */
    private static void missingAtFirst() {
        WheelOnWheel x = Due.with(24, 0, 6, 0, 2);
        for (int list = 0; list <= 2; list++) {
            DUE.is(33, "put(" + list + ", 0, 0)", x.put(list, 0, 0), -11);
            DUE.is(34, "look(" + list + ", 0)", x.look(list, 0), 4000000000000000011L);
            DUE.is(27, "fits(" + list + ", 0, 0)", x.fits(list, 0, 0), 4000000000000000011L);
            DUE.is(28, "kinds(" + list + ", 0, 0)", x.kinds(list, 0, 0), -11);
            DUE.is(30, "judge(" + list + ", 0)", x.judge(list, 0), -11);
            DUE.is(35, "lays(" + list + ", 0, 0)", x.lays(list, 0, 0), -11);
            DUE.is(32, "a refused size", x.list(list, 41), -6);
            DUE.is(32, "a size below 0", x.list(list, -1), -14);
            DUE.is(34, "still missing", x.look(list, 0), Due.refusal(-11));
            DUE.is(32, "a size", x.list(list, 1), 1);
            DUE.is(34, "no longer missing", x.look(list, 0), 0);
        }
        DUE.is(39, "-11 isn't counted", x.count(11) + x.count(12) + x.count(13) + x.count(14) + x.count(15), 0);
    }

    /** A LIST of size 0 is there, but tells nothing and has no place. */
    private static void sizeOf0() {
        WheelOnWheel x = Due.with(24, 2, 6, 3, 2);
        DUE.is(32, "list(1, 0)", x.list(1, 0), 1);
        DUE.is(33, "put(1, 0, 0)", x.put(1, 0, 0), -13);
        DUE.is(34, "look(1, 0)", x.look(1, 0), 4000000000000000013L);
        DUE.is(35, "lays(1, 0, 0)", x.lays(1, 0, 0), -13);
        DUE.is(27, "fits(1, 2, 3)", x.fits(1, 2, 3), (1L << 24) - 2);
        DUE.is(28, "kinds(1, 0, 0)", x.kinds(1, 0, 0), 63);
        DUE.is(28, "kinds(1, 0, 1)", x.kinds(1, 0, 1), 1023);
        DUE.is(30, "judge(1, 0)", x.judge(1, 0), -9);
        for (int what = 11; what <= 16; what++) {
            DUE.is(39, "-13 isn't counted in " + what, x.count(what), 0);
        }
    }

    /** "A LIST becomes a row of n ints, all 0", whatever it was. */
    private static void aRowAnewIsAll0() {
        WheelOnWheel x = new WheelOnWheel();
        Due.list(x, 0, 7, 7, 7);
        Due.list(x, 1, 8);
        DUE.is(32, "longer", x.list(0, 5), 1);
        for (int i = 0; i < 5; i++) {
            DUE.is(34, "look(0, " + i + ")", x.look(0, i), 0);
        }
        x.put(0, 4, 9);
        DUE.is(32, "shorter", x.list(0, 4), 1);
        DUE.is(34, "one place less", x.look(0, 4), Due.refusal(-13));
        x.list(0, 5);
        DUE.is(34, "what was there is gone", x.look(0, 4), 0);
        DUE.is(34, "another LIST stays", x.look(1, 0), 8);
    }

    /** "no such place" */
    private static void placesUpToTheSize() {
        WheelOnWheel x = new WheelOnWheel();
        x.list(2, 3);
        int[] places = {LEAST, -1, 3, 40, GREATEST};
        for (int i : places) {
            DUE.is(33, "put(2, " + i + ", 1)", x.put(2, i, 1), -13);
            DUE.is(34, "look(2, " + i + ")", x.look(2, i), Due.refusal(-13));
        }
        DUE.is(33, "put(2, 0, 4)", x.put(2, 0, 4), 1);
        DUE.is(33, "put(2, 2, 6)", x.put(2, 2, 6), 1);
        DUE.is(34, "look(2, 0)", x.look(2, 0), 4);
        DUE.is(34, "look(2, 1)", x.look(2, 1), 0);
        DUE.is(34, "look(2, 2)", x.look(2, 2), 6);
    }

    /** "Place i of a LIST becomes v": any int. */
    private static void anyNumberInAPlace() {
        WheelOnWheel x = new WheelOnWheel();
        x.list(0, 1);
        int[] numbers = {LEAST, -1, 0, 60, GREATEST};
        for (int v : numbers) {
            DUE.is(33, "put(0, 0, " + v + ")", x.put(0, 0, v), 1);
            DUE.is(34, "look(0, 0)", x.look(0, 0), v);
        }
    }

    /** "A LIST tells teeth (.. 0 .. R less 1)" */
    private static void numbersThatAreTeeth() {
        int[] rings = {3, 24, 60};
        for (int r : rings) {
            WheelOnWheel x = Due.with(r, 0, 1, 0, 0);
            Due.list(x, 0, r - 1, 0, 1);
            DUE.is(27, "fits on " + r, x.fits(0, 0, 0), 2);
            DUE.is(28, "kinds on " + r, x.kinds(0, 0, 0), r == 3 ? 1 | 2 | 4 | 16 | 32 : 1 | 2 | 4 | 16);
        }
    }

    /** "-3 a number that is no tooth", wherever it stands, and though it stands alone ("all its numbers"). */
    private static void numbersThatAreNoTeeth() {
        int[] rings = {3, 24, 60};
        for (int r : rings) {
            WheelOnWheel x = Due.with(r, 0, 1, 0, 0);
            int[][] told = {{r}, {-1}, {LEAST}, {GREATEST}, {r, 0, 1}, {0, 1, r}, {0, -1, 1}};
            for (int[] numbers : told) {
                Due.list(x, 0, numbers);
                DUE.is(27, "fits", x.fits(0, 0, 0), Due.refusal(-3));
                DUE.is(28, "kinds", x.kinds(0, 0, 0), -3);
                DUE.is(28, "figures", x.kinds(0, 0, 1), -3);
            }
            DUE.is(39, "-3 is counted", x.count(13), 21);
        }
        WheelOnWheel y = Due.with(60, 0, 1, 0, 0);
        Due.list(y, 0, 9);
        DUE.is(28, "a tooth of 60", y.kinds(0, 0, 0), 63);
        y.ring(9);
        DUE.is(28, "none of 9", y.kinds(0, 0, 0), -3);
        y.ring(10);
        DUE.is(28, "one of 10", y.kinds(0, 0, 0), 63);
    }

    /** "FITS: SIZES (1 .. R less 1; bits of a long: bit W for SIZE W)" */
    private static void fitsFrom1ToRLess1() {
        int[] rings = {3, 24, 60};
        for (int r : rings) {
            WheelOnWheel x = Due.withRing(r);
            Due.list(x, 0, 0, r - 1);
            DUE.is(27, "SIZE R less 1 of " + r, x.fits(0, 0, 0), 1L << r - 1);
            DUE.is(27, "BACKWARD SIZE 1 of " + r, x.fits(0, 3, 0), 2);
            Due.list(x, 0, 0, 1);
            DUE.is(27, "SIZE 1 of " + r, x.fits(0, 0, 0), 2);
            DUE.is(27, "BACKWARD SIZE R less 1 of " + r, x.fits(0, 3, 0), 1L << r - 1);
            Due.list(x, 0, 1, 1);
            DUE.is(27, "neither SIZE 0 nor R of " + r, x.fits(0, 0, 0), 0);
            DUE.is(27, "DOUBLE half of " + r, x.fits(0, 5, 0), r == 3 ? 0 : 1L << r / 2);
        }
    }

    /** "(all, if it tells fewer than two)" */
    private static void fitsAllByFewerThanTwo() {
        int[] rings = {3, 24, 60};
        for (int r : rings) {
            WheelOnWheel x = Due.withRing(r);
            for (int kind = 0; kind < 6; kind++) {
                Due.list(x, 0);
                DUE.is(27, "by none on " + r, x.fits(0, kind, 0), (1L << r) - 2);
                Due.list(x, 0, r - 1);
                DUE.is(27, "by one on " + r, x.fits(0, kind, 9), (1L << r) - 2);
            }
            Due.list(x, 0, 0, 2);
            DUE.is(27, "by two on " + r, x.fits(0, 0, 0), 4);
        }
    }

    /** A LIST of 40 ints tells as one of two does, up to the last of them. */
    private static void fitsByForty() {
        WheelOnWheel x = Due.with(60, 0, 1, 0, 21);
        x.list(0, 40);
        DUE.is(35, "40 of 60 ARCS", x.lays(0, 0, 0), 40);
        DUE.is(27, "fits(0, 0, 0)", x.fits(0, 0, 0), 2);
        DUE.is(28, "kinds(0, 0, 0)", x.kinds(0, 0, 0), 1 | 2 | 4 | 16);
        x.put(0, 39, 1);
        DUE.is(27, "the last is otherwise", x.fits(0, 0, 0), 0);
        DUE.is(28, "the last is otherwise", x.kinds(0, 0, 0), 0);
        DUE.is(30, "the last is otherwise", x.judge(0, 0), 39);
        x.put(0, 39, 60);
        DUE.is(27, "the last is no tooth", x.fits(0, 0, 0), Due.refusal(-3));
    }

    /** CHOOSY by any SIZE comes to the one tooth that isn't WORN; when all are, it goes as SLIPPING. */
    private static void fitsWhenAllAreWorn() {
        WheelOnWheel x = Due.withRing(5);
        for (int t = 0; t < 5; t++) {
            x.wears(t);
        }
        Due.list(x, 0, 1, 4);
        DUE.is(27, "all WORN", x.fits(0, 4, 0), 1L << 3);
        x.wears(4);
        DUE.is(27, "all but 4 WORN", x.fits(0, 4, 0), 2 | 4 | 8 | 16);
        DUE.is(27, "SLIPPING", x.fits(0, 2, 0), 1L << 3);
    }

    /** "(so all, if it tells fewer than two)" */
    private static void kindsAllByFewerThanTwo() {
        for (int kind = 0; kind < 6; kind++) {
            WheelOnWheel x = Due.with(24, kind, 5, 0, 7);
            Due.list(x, 2);
            DUE.is(28, "KINDS by none", x.kinds(2, 0, 0), 63);
            DUE.is(28, "FIGURES by none", x.kinds(2, 0, 1), 1023);
            Due.list(x, 2, 23);
            DUE.is(28, "KINDS by one", x.kinds(2, 0, 0), 63);
            DUE.is(28, "FIGURES by one", x.kinds(2, 0, 1), 1023);
            Due.list(x, 2, 23, 23);
            DUE.is(28, "KINDS by two", x.kinds(2, 0, 0), 0);
            DUE.is(28, "FIGURES by two", x.kinds(2, 0, 1), 0);
        }
    }

    /** "of a WHEEL, else as it is" */
    private static void kindsElseAsItIs() {
        WheelOnWheel x = Due.with(24, 2, 5, 9, 7);
        Due.list(x, 0, 0, 14);
        DUE.is(28, "KINDS of FIGURE 9, and 10 less", x.kinds(0, 0, 0), 4 | 16 | 32);
        DUE.is(28, "FIGURE 9, the greatest", x.kinds(0, 0, 1), 1 << 9);
        Due.list(x, 0, 0, 5);
        DUE.is(28, "KINDS that don't slip", x.kinds(0, 0, 0), 1 | 2);
        DUE.is(28, "FIGURE 0, the least", x.kinds(0, 0, 1), 1);
        Due.list(x, 0, 0, 14);
        DUE.is(28, "FIGURES of an INNER one", with14(0).kinds(0, 0, 1), 0);
        DUE.is(28, "FIGURES of a CHOOSY one", with14(4).kinds(0, 0, 1), 1 << 9);
    }

    private static WheelOnWheel with14(int kind) {
        WheelOnWheel x = Due.with(24, kind, 5, 0, 7);
        Due.list(x, 0, 0, 14);
        return x;
    }

    /** "DRAWN BY: the least SIZE (1 .. R less 1)" */
    private static void drawnByTheLeast() {
        WheelOnWheel x = Due.withRing(60);
        DUE.is(29, "60, 0: 1 and 59", x.drawnBy(60, 0), 1);
        DUE.is(29, "30, 0: 2 and 58", x.drawnBy(30, 0), 2);
        DUE.is(29, "2, 0: 30", x.drawnBy(2, 0), 30);
        DUE.is(29, "60, 1680: 29 and 31", x.drawnBy(60, 1680), 29);
        WheelOnWheel y = Due.withRing(3);
        DUE.is(29, "3, 0: 1 and 2", y.drawnBy(3, 0), 1);
        DUE.is(29, "whatever WHEELS there are", Due.with(5, 5, 1, 0, 3).drawnBy(5, 5), 2);
    }

    /** "-9", and "-4 either" */
    private static void drawnByNone() {
        WheelOnWheel x = new WheelOnWheel();
        int[][] none = {{0, 0}, {0, 5}, {1, 0}, {24, 1}, {25, 0}, {24, GREATEST}, {GREATEST, 0}};
        for (int[] numbers : none) {
            DUE.is(29, numbers[0] + ", " + numbers[1], x.drawnBy(numbers[0], numbers[1]), -9);
        }
        DUE.is(29, "-1, 0", x.drawnBy(-1, 0), -4);
        DUE.is(29, "24, -1", x.drawnBy(24, -1), -4);
        DUE.is(29, "least, least", x.drawnBy(LEAST, LEAST), -4);
        DUE.is(39, "count(14)", x.count(14), 3);
    }

    private static void judged(int due, int... numbers) {
        WheelOnWheel x = Due.with(24, 0, 6, 0, 2);
        Due.list(x, 0, numbers);
        DUE.is(30, "place", x.judge(0, 0), due);
        DUE.is(39, "JUDGED is no REFUSAL", x.count(11) + x.count(12) + x.count(13) + x.count(14) + x.count(16), 0);
    }

    /** "the first place (from 0) that is otherwise" */
    private static void judgedAtTheFirstPlace() {
        judged(0, 8, 2, 14, 20);
        judged(0, 3);
        judged(1, 2, 14, 8);
        judged(3, 2, 8, 14, 21);
    }

    /** A number may be otherwise by being less, or no tooth, which is no REFUSAL here. */
    private static void judgedLessOrMore() {
        judged(0, 1, 8);
        judged(2, 2, 8, 13);
        judged(2, 2, 8, 15);
        judged(0, -1);
        judged(0, LEAST);
        judged(1, 2, GREATEST);
        judged(1, 2, 32);
    }

    /** "(more than there are, too)" */
    private static void judgedMoreThanThereAre() {
        judged(4, 2, 8, 14, 20, 2);
        judged(4, 2, 8, 14, 20, 0, 0);
        judged(-9, 2, 8, 14, 20);
        WheelOnWheel x = Due.with(3, 5, 1, 0, 0);
        x.list(0, 40);
        x.lays(0, 0, 0);
        DUE.is(30, "the fourth of three", x.judge(0, 0), 3);
    }

    /** "-9 (also if it tells fewer)" */
    private static void judgedFewer() {
        judged(-9);
        judged(-9, 2);
        judged(-9, 2, 8, 14);
        WheelOnWheel x = Due.with(60, 0, 7, 0, 59);
        x.list(0, 40);
        x.lays(0, 0, 0);
        DUE.is(30, "40 of 60", x.judge(0, 0), -9);
    }

    /** "laid into a LIST from place i on, from ARC 0 on, as many as have a place" */
    private static void laysAsManyAsHaveAPlace() {
        WheelOnWheel x = Due.with(60, 0, 7, 0, 59);
        x.list(0, 40);
        DUE.is(35, "40 of 60", x.lays(0, 0, 0), 40);
        DUE.is(34, "look(0, 0)", x.look(0, 0), 59);
        DUE.is(34, "look(0, 39)", x.look(0, 39), (59 + 39 * 7) % 60);
        x.list(1, 1);
        DUE.is(35, "one of 60", x.lays(1, 0, 0), 1);
        WheelOnWheel y = Due.with(24, 0, 6, 0, 2);
        Due.list(y, 0, 70, 71, 72, 73, 74, 75);
        DUE.is(35, "four of four, two stay", y.lays(0, 1, 0), 4);
        int[] due = {70, 2, 8, 14, 20, 75};
        for (int i = 0; i < due.length; i++) {
            DUE.is(35, "look(0, " + i + ")", y.look(0, i), due[i]);
        }
        DUE.is(35, "just as many", y.lays(0, 2, 0), 4);
        DUE.is(34, "look(0, 5)", y.look(0, 5), 20);
    }

    /** "no such place (with the size of the LIST, too)" */
    private static void laysAtTheLastPlace() {
        WheelOnWheel x = Due.with(24, 0, 6, 0, 2);
        x.list(0, 40);
        DUE.is(35, "place 39", x.lays(0, 39, 0), 1);
        DUE.is(34, "look(0, 39)", x.look(0, 39), 2);
        DUE.is(34, "look(0, 38)", x.look(0, 38), 0);
        DUE.is(35, "place 40", x.lays(0, 40, 0), -13);
        DUE.is(35, "place -1", x.lays(0, -1, 0), -13);
        DUE.is(35, "the greatest", x.lays(0, GREATEST, 0), -13);
        DUE.is(35, "the least", x.lays(0, LEAST, 0), -13);
    }

    private static void lots(WheelOnWheel x, int n, int z, int teeth, int zero) {
        DUE.is(31, "lots(" + n + ", " + z + ", 0)", x.lots(n, z, 0), teeth);
        DUE.is(31, "lots(" + n + ", " + z + ", 1)", x.lots(n, z, 1), zero);
    }

    /** "n times (1 .. 50)" */
    private static void lotsFrom1To50() {
        WheelOnWheel x = Due.with(60, 5, 30, 0, 7);
        DUE.is(31, "n 0", x.lots(0, 0, 0), -4);
        DUE.is(31, "n 51", x.lots(51, 0, 0), -6);
        DUE.is(31, "the least", x.lots(LEAST, 0, 0), -4);
        DUE.is(31, "the greatest", x.lots(GREATEST, 0, 0), -6);
        lots(x, 1, 0, 1, 0);
        lots(x, 50, 0, 1, 0);
        // 1 from 58 on: the first is two ARCS, 59 and 0.
        lots(Due.with(60, 0, 1, 0, 58), 1, 0, 2, 1);
    }

    /** A DRAW below 1 is always 0, but z goes on by it: the ARCS are of each second z. */
    private static void lotsOfOneWheel() {
        long z = 0;
        int arcs = 0;
        WheelOnWheel x = Due.with(24, 5, 12, 0, 0);
        for (int n = 1; n <= 50; n++) {
            z = z * 1664525L + 1013904223L & 0xffffffffL;
            z = z * 1664525L + 1013904223L & 0xffffffffL;
            arcs += (int) ((z & 0x7fffffffL) / 256 % 4) + 1;
            lots(x, n, 0, 1, arcs);
        }
    }

    /** "(z without its sign's bit divided by 256, cut)": seeds that are below 0, or become so. */
    private static void lotsOfAnySeed() {
        int[] seeds = {LEAST, LEAST + 1, -1, 0, 1, GREATEST - 1, GREATEST};
        for (int seed : seeds) {
            long z = seed;
            int arcs = 0;
            boolean other = false;
            for (int n = 0; n < 50; n++) {
                z = z * 1664525L + 1013904223L & 0xffffffffL;
                boolean first = (z & 0x7fffffffL) / 256 % 2 == 0;
                z = z * 1664525L + 1013904223L & 0xffffffffL;
                arcs += first ? (int) ((z & 0x7fffffffL) / 256 % 4) + 1 : 0;
                other |= !first;
            }
            WheelOnWheel x = Due.with(24, 5, 12, 0, 0);
            x.wheel(5, 12, 0, 23, 1);
            lots(x, 50, seed, other ? 2 : 1, arcs);
        }
    }

    /** "n times .., one behind the other": a WHEEL goes on from where its last lot left it; in thought alone. */
    private static void lotsOneBehindTheOther() {
        WheelOnWheel x = Due.with(60, 0, 1, 0, 0);
        // Behind each of the first lots with z 0 so many ARCS are done; by 1 each touches one tooth more.
        int[] arcs = {2, 6, 9, 13, 17, 19, 22, 23};
        for (int n = 1; n <= arcs.length; n++) {
            lots(x, n, 0, arcs[n - 1], 0);
        }
        // 126 ARCS are two rounds and more.
        lots(x, 50, 0, 60, 2);
        DUE.is(31, "AT as it was", x.of(0, 4), 0);
        DUE.is(31, "ROLLED as it was", x.of(0, 5), 0);
        DUE.is(31, "no INK", x.count(4), 0);
    }
}
