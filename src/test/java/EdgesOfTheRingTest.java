/** Edges of the document's part 1: the ring, its wheels, what they have as next, what their arcs go, turns. */
public final class EdgesOfTheRingTest {
    private static final Due DUE = new Due("EdgesOfTheRingTest");
    private static final int[] RINGS = {3, 24, 60};

    public static void main(String[] args) {
        twentyFourTeethAtFirst();
        ringsOf3To60Teeth();
        teethFrom0ToRLess1();
        behindTheLastTooth0();
        moreThanOnceRound();
        noneWornAtFirst();
        noInkAtFirst();
        inkUpTo9999();
        rolledUpTo9999();
        rolled0AtFirst();
        numbersAsTheyComeUpTo6();
        sizeFrom1ToRLess1();
        figureFrom0To9();
        paceFrom1To9();
        atAnyTooth();
        slipsOnMultiples();
        choosyTakesThatToothItself();
        choosyGoesUpwardRound();
        choosyWhenAllAreWorn();
        doubleOfHalfTheRing();
        arcsThatGo0();
        arcsThatGoRLess1();
        turnsOfEachKind();
        turnsOf0();
        turnsBelow0();
        DUE.close();
    }

    /** "R teeth (.. 24 at first)" */
    private static void twentyFourTeethAtFirst() {
        WheelOnWheel x = new WheelOnWheel();
        DUE.is(1, "count(1)", x.count(1), 24);
        DUE.is(1, "tooth(23, 0)", x.tooth(23, 0), 0);
        DUE.is(1, "tooth(24, 0)", x.tooth(24, 0), -1);
        DUE.is(4, "ring(3)", x.ring(3), 24);
    }

    /** "3 .. 60" */
    private static void ringsOf3To60Teeth() {
        WheelOnWheel x = new WheelOnWheel();
        DUE.is(4, "ring(2)", x.ring(2), -4);
        DUE.is(4, "ring(-3)", x.ring(-3), -4);
        DUE.is(4, "ring(least)", x.ring(Integer.MIN_VALUE), -4);
        DUE.is(4, "ring(61)", x.ring(61), -6);
        DUE.is(4, "ring(greatest)", x.ring(Integer.MAX_VALUE), -6);
        DUE.is(4, "R stays", x.count(1), 24);
        DUE.is(4, "ring(3)", x.ring(3), 24);
        DUE.is(4, "ring(60)", x.ring(60), 3);
        DUE.is(4, "R", x.count(1), 60);
    }

    /** "numbered 0 .. R less 1" */
    private static void teethFrom0ToRLess1() {
        for (int r : RINGS) {
            WheelOnWheel x = Due.withRing(r);
            x.wheel(0, 1, 0, r - 1, 1);
            int[] teeth = {-1, 0, r - 1, r};
            for (int t : teeth) {
                int none = t < 0 || t >= r ? -1 : 0;
                String of = "(" + t + ") of " + r;
                DUE.is(12, "tooth" + of, x.tooth(t, 0), none);
                DUE.is(9, "next" + of, Math.min(x.next(0, t), 0), none);
                DUE.is(16, "behind" + of, Math.min(x.behind(0, t), 0), none);
                DUE.is(26, "ahead" + of, x.ahead(t), none == 0 ? -9 : -1);
                DUE.is(11, "wears" + of, Math.min(x.wears(t), 0), none);
                DUE.is(8, "puts" + of, Math.min(x.puts(0, t), 0), none);
            }
            DUE.is(12, "the last is WORN", x.tooth(r - 1, 0), 1);
            DUE.is(8, "AT the last", x.of(0, 4), r - 1);
        }
    }

    /** "behind the last comes 0 again (all teeth are told modulo R)" */
    private static void behindTheLastTooth0() {
        for (int r : RINGS) {
            WheelOnWheel x = Due.withRing(r);
            int last = r - 1;
            int[] kinds = {0, 1, 2, 3, 4, 5};
            // FIGURE 0 slips nowhere.
            int[] by1From0 = {1, 1, 1, last, 1, r - 2};
            int[] by1FromLast = {0, 0, 0, r - 2, 0, r - 3};
            int[] byLastFrom0 = {last, last, last, 1, last, 2};
            int[] byLastFrom1 = {0, 0, 0, 2, 0, 3 % r};
            for (int kind : kinds) {
                x.wheel(kind, 1, 0, 0, 1);
                DUE.is(9, "SIZE 1 from 0, KIND " + kind + " of " + r, x.next(kind, 0), by1From0[kind]);
                DUE.is(9, "SIZE 1 from the last, KIND " + kind + " of " + r, x.next(kind, last), by1FromLast[kind]);
                x.change(kind, 1, last);
                DUE.is(9, "the greatest SIZE from 0, KIND " + kind + " of " + r, x.next(kind, 0), byLastFrom0[kind]);
                DUE.is(9, "the greatest SIZE from 1, KIND " + kind + " of " + r, x.next(kind, 1), byLastFrom1[kind]);
            }
            DUE.is(24, "rolled from 1", roll(x, 0, 1), 0);
            DUE.is(24, "INK of 0", x.tooth(0, 1), 1);
        }
    }

    private static int roll(WheelOnWheel x, int wheel, int from) {
        x.puts(wheel, from);
        return x.roll(wheel, 1);
    }

    /** "all teeth are told modulo R": SIZE and FIGURE, or SIZE twice, are more than R. */
    private static void moreThanOnceRound() {
        WheelOnWheel x = Due.withRing(3);
        x.wheel(2, 2, 9, 0, 1);
        x.wheel(4, 2, 9, 0, 1);
        x.wheel(5, 2, 0, 0, 1);
        int[] figures = {0, 1, 2, 3, 4, 5, 6, 7, 8, 9};
        int[] nexts = {2, 0, 1, 2, 0, 1, 2, 0, 1, 2};
        for (int figure : figures) {
            x.change(0, 2, figure);
            x.change(1, 2, figure);
            DUE.is(9, "SLIPPING, FIGURE " + figure, x.next(0, 0), nexts[figure]);
            DUE.is(9, "CHOOSY, FIGURE " + figure, x.next(1, 0), nexts[figure]);
        }
        DUE.is(9, "DOUBLE: 0 less 4", x.next(2, 0), 2);
        DUE.is(9, "DOUBLE: 2 less 4", x.next(2, 2), 1);
    }

    /** "WORN or not (not at first)" */
    private static void noneWornAtFirst() {
        WheelOnWheel x = new WheelOnWheel();
        for (int t = 0; t < 24; t++) {
            DUE.is(1, "tooth(" + t + ", 0)", x.tooth(t, 0), 0);
        }
        DUE.is(39, "count(3)", x.count(3), 0);
        DUE.is(11, "wears(0)", x.wears(0), 1);
        DUE.is(11, "wears(0) again", x.wears(0), 0);
    }

    /** "INK (.. 0 at first)" */
    private static void noInkAtFirst() {
        WheelOnWheel x = new WheelOnWheel();
        for (int t = 0; t < 24; t++) {
            DUE.is(1, "tooth(" + t + ", 1)", x.tooth(t, 1), 0);
        }
        DUE.is(39, "count(2)", x.count(2), 0);
        DUE.is(39, "count(4)", x.count(4), 0);
    }

    /** A DOUBLE WHEEL that stays at tooth 7, was rolled 9960 times and has 9960 of INK there. */
    private static WheelOnWheel with9960() {
        WheelOnWheel x = new WheelOnWheel();
        x.wheel(5, 12, 0, 7, 1);
        for (int i = 0; i < 249; i++) {
            x.roll(0, 40);
        }
        return x;
    }

    /** "INK (0 .. 9999 ..)", "INK 1 more (9999 at most)" */
    private static void inkUpTo9999() {
        WheelOnWheel x = with9960();
        x.roll(0, 38);
        DUE.is(24, "INK behind 9998", x.tooth(7, 1), 9998);
        DUE.is(24, "AT", x.roll(0, 1), 7);
        DUE.is(24, "INK behind 9999", x.tooth(7, 1), 9999);
        x.roll(0, 1);
        DUE.is(24, "INK behind 10000", x.tooth(7, 1), 9999);
        DUE.is(39, "all INK", x.count(4), 9999);
        x.puts(0, 8);
        x.roll(0, 1);
        DUE.is(24, "INK of another tooth", x.tooth(8, 1), 1);
        DUE.is(39, "all INK may be more", x.count(4), 10000);
        DUE.is(3, "by a SHEET", Due.sheet(x, "a007;g040;"), 2);
        DUE.is(3, "INK stays", x.tooth(7, 1), 9999);
        WheelOnWheel y = with9960();
        y.roll(0, 40);
        DUE.is(24, "INK behind 10000, 40 at once", y.tooth(7, 1), 9999);
        y.undo();
        DUE.is(36, "UNDONE", y.tooth(7, 1), 9960);
    }

    /** "ROLLED (0 .. 9999 ..)", "ROLLED is n more (9999 at most)" */
    private static void rolledUpTo9999() {
        WheelOnWheel x = with9960();
        x.wheel(5, 12, 0, 7, 1);
        x.roll(0, 38);
        DUE.is(6, "ROLLED behind 9998", x.of(0, 5), 9998);
        x.roll(0, 1);
        DUE.is(6, "ROLLED behind 9999", x.of(0, 5), 9999);
        x.roll(0, 1);
        DUE.is(6, "ROLLED behind 10000", x.of(0, 5), 9999);
        x.roll(1, 2);
        DUE.is(6, "ROLLED of another", x.of(1, 5), 2);
        DUE.is(3, "by a SHEET", Due.sheet(x, "g040;"), 1);
        DUE.is(3, "ROLLED stays", x.of(0, 5), 9999);
        WheelOnWheel y = with9960();
        y.roll(0, 40);
        DUE.is(6, "ROLLED behind 10000, 40 at once", y.of(0, 5), 9999);
        y.undo();
        DUE.is(36, "UNDONE", y.of(0, 5), 9960);
    }

    /** "ROLLED (.. 0 at first ..)", though a WHEEL of its number was rolled once. */
    private static void rolled0AtFirst() {
        WheelOnWheel x = new WheelOnWheel();
        x.image();
        x.wheel(0, 5, 0, 0, 1);
        DUE.is(6, "ROLLED", x.of(0, 5), 0);
        x.roll(0, 7);
        x.on();
        DUE.is(5, "WHEEL 0 again", x.wheel(0, 5, 0, 0, 1), 0);
        DUE.is(6, "ROLLED of the new one", x.of(0, 5), 0);
        x.roll(0, 7);
        x.on();
        Due.sheet(x, "w0050001;");
        DUE.is(6, "ROLLED of one by a SHEET", x.of(0, 5), 0);
    }

    /** "WHEELS have numbers, 0 .. as they come, 6 at most" */
    private static void numbersAsTheyComeUpTo6() {
        WheelOnWheel x = new WheelOnWheel();
        DUE.is(1, "no WHEELS", x.count(0), 0);
        DUE.is(6, "of(0, 0)", x.of(0, 0), -1);
        for (int i = 0; i < 6; i++) {
            DUE.is(5, "a WHEEL more", x.wheel(i, 1, 0, 0, 1), i);
            DUE.is(6, "its KIND", x.of(i, 0), i);
            DUE.is(6, "none behind it", x.of(i + 1, 0), -1);
        }
        DUE.is(5, "a seventh", x.wheel(0, 1, 0, 0, 1), -6);
        DUE.is(39, "count(0)", x.count(0), 6);
        DUE.is(6, "WHEEL 6", x.of(6, 0), -1);
    }

    /** "a SIZE W (1 .. 59 teeth, less than R)" */
    private static void sizeFrom1ToRLess1() {
        for (int r : RINGS) {
            WheelOnWheel x = Due.withRing(r);
            DUE.is(5, "SIZE 0 of " + r, x.wheel(0, 0, 0, 0, 1), -4);
            DUE.is(5, "SIZE " + r, x.wheel(0, r, 0, 0, 1), -6);
            DUE.is(5, "SIZE 1 of " + r, x.wheel(0, 1, 0, 0, 1), 0);
            DUE.is(5, "the greatest SIZE of " + r, x.wheel(0, r - 1, 0, 0, 1), 1);
            DUE.is(6, "that SIZE", x.of(1, 1), r - 1);
            DUE.is(7, "changed to 0", x.change(1, 1, 0), -4);
            DUE.is(7, "changed to R", x.change(1, 1, r), -6);
            DUE.is(7, "changed to 1", x.change(1, 1, 1), r - 1);
            DUE.is(7, "changed to R less 1", x.change(1, 1, r - 1), 1);
        }
    }

    /** "a FIGURE (0 .. 9)" */
    private static void figureFrom0To9() {
        WheelOnWheel x = new WheelOnWheel();
        DUE.is(5, "FIGURE -1", x.wheel(0, 1, -1, 0, 1), -4);
        DUE.is(5, "FIGURE 10", x.wheel(0, 1, 10, 0, 1), -6);
        DUE.is(5, "FIGURE 0", x.wheel(0, 1, 0, 0, 1), 0);
        DUE.is(5, "FIGURE 9", x.wheel(0, 1, 9, 0, 1), 1);
        DUE.is(6, "that FIGURE", x.of(1, 2), 9);
        DUE.is(7, "changed to -1", x.change(1, 2, -1), -4);
        DUE.is(7, "changed to 10", x.change(1, 2, 10), -6);
        DUE.is(7, "changed to 0", x.change(1, 2, 0), 9);
        DUE.is(7, "changed to 9", x.change(1, 2, 9), 0);
    }

    /** "a PACE (1 .. 9)" */
    private static void paceFrom1To9() {
        WheelOnWheel x = new WheelOnWheel();
        DUE.is(5, "PACE 0", x.wheel(0, 1, 0, 0, 0), -4);
        DUE.is(5, "PACE 10", x.wheel(0, 1, 0, 0, 10), -6);
        DUE.is(5, "PACE 1", x.wheel(0, 1, 0, 0, 1), 0);
        DUE.is(5, "PACE 9", x.wheel(0, 1, 0, 0, 9), 1);
        DUE.is(6, "that PACE", x.of(1, 3), 9);
        DUE.is(7, "changed to 0", x.change(1, 3, 0), -4);
        DUE.is(7, "changed to 10", x.change(1, 3, 10), -6);
        DUE.is(7, "changed to 1", x.change(1, 3, 1), 9);
        DUE.is(7, "changed to 9", x.change(1, 3, 9), 1);
    }

    /** "AT (the tooth of THE RING that its pen touches)" */
    private static void atAnyTooth() {
        for (int r : RINGS) {
            WheelOnWheel x = Due.withRing(r);
            DUE.is(5, "AT -1 of " + r, x.wheel(0, 1, 0, -1, 1), -1);
            DUE.is(5, "AT " + r, x.wheel(0, 1, 0, r, 1), -1);
            DUE.is(5, "AT 0 of " + r, x.wheel(0, 1, 0, 0, 1), 0);
            DUE.is(5, "AT the last of " + r, x.wheel(0, 1, 0, r - 1, 1), 1);
            DUE.is(6, "that tooth", x.of(1, 4), r - 1);
            DUE.is(6, "its NEXT", x.of(1, 7), 0);
        }
    }

    /** "FIGURE more, if t is a multiple of (FIGURE plus 2) (so is 0)" */
    private static void slipsOnMultiples() {
        WheelOnWheel x = new WheelOnWheel();
        x.wheel(2, 1, 0, 0, 1);
        x.wheel(4, 1, 0, 0, 1);
        for (int figure = 0; figure <= 9; figure++) {
            x.change(0, 2, figure);
            x.change(1, 2, figure);
            int multiple = 0;
            for (int t = 0; t < 24; t++) {
                if (t == multiple + figure + 2) {
                    multiple = t;
                }
                int due = (t + 1 + (t == multiple ? figure : 0)) % 24;
                DUE.is(9, "SLIPPING " + figure + " from " + t, x.next(0, t), due);
                DUE.is(9, "CHOOSY " + figure + " from " + t, x.next(1, t), due);
            }
        }
        DUE.is(9, "FIGURE 9 from 0", x.next(0, 0), 10);
        DUE.is(9, "FIGURE 9 from 10", x.next(0, 10), 11);
        DUE.is(9, "FIGURE 9 from 11", x.next(0, 11), 21);
        WheelOnWheel y = Due.withRing(3);
        y.wheel(2, 1, 9, 0, 1);
        DUE.is(9, "no other multiple on 3 teeth", y.next(0, 0), 1);
        DUE.is(9, "from 1", y.next(0, 1), 2);
        DUE.is(9, "from 2", y.next(0, 2), 0);
    }

    /** "of teeth from the one that a SLIPPING one has NEXT on": that one, though all others are WORN. */
    private static void choosyTakesThatToothItself() {
        WheelOnWheel x = withWorn(24, 4, 5, 3);
        x.wheel(4, 5, 1, 0, 1);
        x.wheel(2, 5, 1, 0, 1);
        // Not WORN are 4, 5 and 3 alone; FIGURE 1 slips on 0 and 3, and 22 is no multiple of 3.
        DUE.is(9, "from 23: 4", x.next(0, 23), 4);
        DUE.is(9, "from 22: 3", x.next(0, 22), 3);
        DUE.is(9, "from 0, slipped to 6: round to 3", x.next(0, 0), 3);
        DUE.is(9, "SLIPPING doesn't mind", x.next(1, 0), 6);
    }

    /** A ring on which all teeth are WORN but for these. */
    private static WheelOnWheel withWorn(int r, int... others) {
        WheelOnWheel x = Due.withRing(r);
        for (int t = 0; t < r; t++) {
            x.wears(t);
        }
        for (int t : others) {
            x.wears(t);
        }
        return x;
    }

    /** "upward, the first that isn't WORN", and behind the last comes 0 again. */
    private static void choosyGoesUpwardRound() {
        WheelOnWheel x = withWorn(60, 9, 12);
        x.wheel(4, 1, 0, 0, 1);
        DUE.is(9, "from 8: 9", x.next(0, 8), 9);
        DUE.is(9, "from 9: 12", x.next(0, 9), 12);
        DUE.is(9, "from 11: 12", x.next(0, 11), 12);
        DUE.is(9, "from 12, round: 9", x.next(0, 12), 9);
        DUE.is(9, "from 59: 9", x.next(0, 59), 9);
        WheelOnWheel y = withWorn(60, 12);
        y.wheel(4, 1, 0, 0, 1);
        DUE.is(9, "from 12, all the way round: 12", y.next(0, 12), 12);
        WheelOnWheel z = withWorn(3, 2);
        z.wheel(4, 1, 0, 0, 1);
        DUE.is(9, "from 2 by 0 and 1: 2", z.next(0, 2), 2);
    }

    /** "if all are WORN, that one itself" */
    private static void choosyWhenAllAreWorn() {
        for (int r : RINGS) {
            WheelOnWheel x = withWorn(r);
            x.wheel(4, 1, 0, 0, 1);
            DUE.is(9, "from 0 of " + r, x.next(0, 0), 1);
            DUE.is(9, "from the last of " + r, x.next(0, r - 1), 0);
            DUE.is(13, "all are CUSPS", x.drawing(0, 2), r);
            x.wears(0);
            DUE.is(9, "0 is not any more, of " + r, x.next(0, 0), 0);
        }
    }

    /** "5 DOUBLE ..: NEXT of a BACKWARD one, and of that tooth NEXT of a BACKWARD one again" */
    private static void doubleOfHalfTheRing() {
        WheelOnWheel x = Due.withRing(60);
        x.wheel(5, 30, 0, 17, 1);
        DUE.is(9, "half the ring twice", x.next(0, 17), 17);
        x.change(0, 1, 29);
        DUE.is(9, "58 less", x.next(0, 17), 19);
        x.change(0, 1, 31);
        DUE.is(9, "62 less", x.next(0, 17), 15);
    }

    /** "it GOES so many teeth (.. 0, if its NEXT is t)": such a DRAWING has one ARC and ROUNDS 0. */
    private static void arcsThatGo0() {
        int[] due = {0, 1, 1, 0, 24, 8, 0, 0};
        for (int kind = 0; kind < 3; kind++) {
            WheelOnWheel x = withWorn(24, 8);
            // FIGURE 2 slips on 8: 22 and 2 more are a round. A CHOOSY one finds 8 alone not WORN.
            int[][] wheels = {{2, 22, 2}, {4, 5, 0}, {5, 12, 0}};
            x.wheel(wheels[kind][0], wheels[kind][1], wheels[kind][2], 8, 1);
            for (int what = 0; what < due.length; what++) {
                DUE.is(13, "KIND " + wheels[kind][0] + ": drawing(0, " + what + ")", x.drawing(0, what), due[what]);
            }
            DUE.is(24, "rolled it stays", x.roll(0, 40), 8);
            DUE.is(24, "and inks", x.tooth(8, 1), 40);
        }
    }

    /** "it GOES so many teeth (0 .. R less 1 ..): NEXT less t .. of BACKWARD, DOUBLE ones t less NEXT" */
    private static void arcsThatGoRLess1() {
        // SIZES 1 and 4 on five teeth: all five are CUSPS, ROUNDS tell how many each ARC goes.
        int[] by1 = {1, 1, 1, 1, 1, 2};
        int[] by4 = {4, 4, 4, 4, 4, 3};
        for (int kind = 0; kind < 6; kind++) {
            WheelOnWheel x = Due.withRing(5);
            x.wheel(kind, 1, 0, 2, 1);
            DUE.is(13, "ROUNDS by 1, KIND " + kind, x.drawing(0, 3), by1[kind]);
            x.change(0, 1, 4);
            DUE.is(13, "ROUNDS by 4, KIND " + kind, x.drawing(0, 3), by4[kind]);
            DUE.is(13, "CUSPS, KIND " + kind, x.drawing(0, 2), 5);
        }
        WheelOnWheel y = Due.withRing(60);
        y.wheel(0, 59, 0, 59, 1);
        y.wheel(3, 59, 0, 59, 1);
        DUE.is(13, "ROUNDS of 60 ARCS", y.drawing(0, 3), 59);
        DUE.is(13, "ROUNDS of 60 ARCS, BACKWARD", y.drawing(1, 3), 59);
    }

    private static void ratio(WheelOnWheel x, int wheel, int above, int below) {
        DUE.is(10, "above of " + x.of(wheel, 1) + ", KIND " + x.of(wheel, 0), x.ratio(wheel, 0), above);
        DUE.is(10, "below of " + x.of(wheel, 1) + ", KIND " + x.of(wheel, 0), x.ratio(wheel, 1), below);
    }

    /** "TURNS ..": of the least SIZE, the greatest and half the ring, in least terms. */
    private static void turnsOfEachKind() {
        WheelOnWheel x = Due.withRing(60);
        int[] sizes = {1, 30, 59};
        int[][] above = {{59, 1, 1}, {61, 3, 119}, {50, 7, -8}, {-61, -3, -119}, {50, 7, -8}, {-122, -6, -238}};
        int[][] below = {{1, 1, 59}, {1, 1, 59}, {1, 10, 59}, {1, 1, 59}, {1, 10, 59}, {1, 1, 59}};
        for (int kind = 0; kind < 6; kind++) {
            x.wheel(kind, 1, 9, 0, 1);
            for (int i = 0; i < sizes.length; i++) {
                x.change(kind, 1, sizes[i]);
                ratio(x, kind, above[kind][i], below[kind][i]);
            }
        }
        WheelOnWheel y = Due.withRing(3);
        y.wheel(0, 2, 0, 0, 1);
        y.wheel(5, 2, 0, 0, 1);
        ratio(y, 0, 1, 2);
        ratio(y, 1, -5, 1);
    }

    /** "0 as 0 by 1" */
    private static void turnsOf0() {
        WheelOnWheel x = new WheelOnWheel();
        x.wheel(2, 15, 9, 0, 1);
        x.wheel(4, 23, 1, 0, 1);
        ratio(x, 0, 0, 1);
        ratio(x, 1, 0, 1);
    }

    /** "in least terms, the sign above the line" */
    private static void turnsBelow0() {
        WheelOnWheel x = new WheelOnWheel();
        x.wheel(2, 20, 6, 0, 1);
        x.wheel(4, 18, 9, 0, 1);
        x.wheel(3, 21, 0, 0, 1);
        x.wheel(5, 10, 0, 0, 1);
        x.wheel(5, 8, 0, 0, 1);
        ratio(x, 0, -1, 10);
        ratio(x, 1, -1, 6);
        ratio(x, 2, -15, 7);
        ratio(x, 3, -34, 5);
        ratio(x, 4, -8, 1);
    }
}
