/** Edges of the document's part 3, its first half: touches in time, meetings, crowds, rolling truly, ink. */
public final class EdgesOfTouchesTest {
    private static final Due DUE = new Due("EdgesOfTouchesTest");

    public static void main(String[] args) {
        setsOfOneAndOfAll();
        setsOfNone();
        firstTouchBehindOnePace();
        touchesFrom0To99();
        ofOneTickByTeeth();
        ofOneToothByWheels();
        meetAtTick1();
        noMeetingAtTick0();
        meetAtTick200();
        noMeetingAtTick201();
        noMeetingOfOne();
        meetOfTwoOrMore();
        meetAtTheLeastTooth();
        crowdOf0();
        crowdOf1();
        crowdOf100();
        crowdOfThoseOfOneTick();
        crowdOfSeveralTheLeast();
        aloneMeansJustOne();
        rollsFrom1To40();
        inkedNone();
        inkedOneAlone();
        inkedAll();
        blotOfSeveralTheLeast();
        aheadItToo();
        aheadUpToTheLast();
        DUE.close();
    }

    /** A ring with WHEELS: KIND, SIZE, AT, PACE of each; FIGURE is 0. */
    private static WheelOnWheel with(int teeth, int[]... wheels) {
        WheelOnWheel x = Due.withRing(teeth);
        for (int[] w : wheels) {
            x.wheel(w[0], w[1], 0, w[2], w[3]);
        }
        return x;
    }

    private static void touch(WheelOnWheel x, int set, int i, int tick, int tooth, int wheel) {
        DUE.is(21, "tick of " + i, x.touch(set, i, 0), tick);
        DUE.is(21, "tooth of " + i, x.touch(set, i, 1), tooth);
        DUE.is(21, "WHEEL of " + i, x.touch(set, i, 2), wheel);
    }

    private static void meet(WheelOnWheel x, int set, int tick, int tooth) {
        DUE.is(22, "tick of set " + set, x.meet(set, 0), tick);
        DUE.is(22, "tooth of set " + set, x.meet(set, 1), tooth);
    }

    private static void crowd(WheelOnWheel x, int set, int n, int tooth, int most, int alone) {
        DUE.is(23, "tooth of the first " + n, x.crowd(set, n, 0), tooth);
        DUE.is(23, "how many of the first " + n, x.crowd(set, n, 1), most);
        DUE.is(23, "ALONE of the first " + n, x.crowd(set, n, 2), alone);
    }

    private static WheelOnWheel withSix() {
        return with(24, new int[] {0, 1, 0, 1}, new int[] {0, 1, 2, 1}, new int[] {0, 1, 4, 1}, new int[] {0, 1, 6, 1},
            new int[] {0, 1, 8, 1}, new int[] {0, 1, 10, 1});
    }

    /** "a set of WHEELS (bits; one or more)" */
    private static void setsOfOneAndOfAll() {
        WheelOnWheel x = withSix();
        for (int wheel = 0; wheel < 6; wheel++) {
            touch(x, 1 << wheel, 0, 1, 2 * wheel + 1, wheel);
            touch(x, 1 << wheel, 1, 2, 2 * wheel + 2, wheel);
            touch(x, 63, wheel, 1, 2 * wheel + 1, wheel);
        }
        touch(x, 33, 1, 1, 11, 5);
        DUE.is(22, "meet(63, 0)", x.meet(63, 0), -9);
        DUE.is(23, "crowd(63, 6, 2)", x.crowd(63, 6, 2), 6);
    }

    /** "set (below 1, bits of no WHEEL)" */
    private static void setsOfNone() {
        WheelOnWheel x = with(24, new int[] {0, 1, 0, 1}, new int[] {0, 1, 2, 1});
        int[] sets = {0, -1, 4, 5, 7, 32, 64, 1 << 30, 1 << 31, Integer.MAX_VALUE};
        for (int set : sets) {
            DUE.is(21, "touch(" + set + ", 0, 0)", x.touch(set, 0, 0), -1);
            DUE.is(22, "meet(" + set + ", 0)", x.meet(set, 0), -1);
            DUE.is(23, "crowd(" + set + ", 0, 0)", x.crowd(set, 0, 0), -1);
        }
        WheelOnWheel none = new WheelOnWheel();
        DUE.is(21, "no WHEELS", none.touch(1, 0, 0), -1);
        DUE.is(22, "no WHEELS", none.meet(1, 0), -1);
        DUE.is(23, "no WHEELS", none.crowd(1, 0, 0), -1);
        WheelOnWheel six = withSix();
        DUE.is(21, "bit 6 of six", six.touch(64, 0, 0), -1);
        DUE.is(22, "bits 0 to 6 of six", six.meet(127, 0), -1);
        DUE.is(23, "bits 0 and 6 of six", six.crowd(65, 0, 0), -1);
    }

    /** "each in PACE ticks (the first begins at tick 0), and TOUCHES its NEXT behind each" */
    private static void firstTouchBehindOnePace() {
        for (int pace = 1; pace <= 9; pace++) {
            WheelOnWheel x = with(24, new int[] {0, 5, 20, pace});
            touch(x, 1, 0, pace, 1, 0);
            touch(x, 1, 1, 2 * pace, 6, 0);
        }
    }

    /** "The i-th of them (0 .. 99)" */
    private static void touchesFrom0To99() {
        WheelOnWheel slow = with(60, new int[] {0, 1, 59, 9});
        touch(slow, 1, 0, 9, 0, 0);
        touch(slow, 1, 99, 900, 39, 0);
        DUE.is(21, "touch -1", slow.touch(1, -1, 0), -4);
        DUE.is(21, "touch 100", slow.touch(1, 100, 0), -6);
        WheelOnWheel six = withSix();
        // 16 ticks of six, then four of the 17th: WHEELS 4 and 5 have come round to 1 and 3.
        touch(six, 63, 95, 16, 22, 3);
        touch(six, 63, 96, 17, 1, 4);
        touch(six, 63, 99, 17, 19, 1);
    }

    /** "of one tick by teeth (the least first)" */
    private static void ofOneTickByTeeth() {
        WheelOnWheel x = with(24, new int[] {0, 1, 22, 1}, new int[] {0, 1, 23, 1}, new int[] {0, 1, 3, 1});
        touch(x, 7, 0, 1, 0, 1);
        touch(x, 7, 1, 1, 4, 2);
        touch(x, 7, 2, 1, 23, 0);
        touch(x, 7, 3, 2, 0, 0);
        touch(x, 7, 4, 2, 1, 1);
        // A slower one comes behind, though its tooth is less.
        WheelOnWheel y = with(24, new int[] {0, 1, 23, 2}, new int[] {0, 1, 22, 1});
        touch(y, 3, 0, 1, 23, 1);
        touch(y, 3, 1, 2, 0, 0);
        touch(y, 3, 2, 2, 0, 1);
    }

    /** "of one tooth by WHEELS" */
    private static void ofOneToothByWheels() {
        WheelOnWheel x = with(24, new int[] {0, 3, 1, 1}, new int[] {3, 1, 5, 1}, new int[] {5, 1, 6, 1}, new int[] {0, 1, 3, 1});
        for (int wheel = 0; wheel < 4; wheel++) {
            touch(x, 15, wheel, 1, 4, wheel);
        }
        touch(x, 10, 0, 1, 4, 1);
        touch(x, 10, 1, 1, 4, 3);
    }

    /** "MEET: the first tick (1 ..)" */
    private static void meetAtTick1() {
        meet(with(24, new int[] {0, 1, 23, 1}, new int[] {3, 1, 1, 1}), 3, 1, 0);
        meet(with(24, new int[] {0, 1, 22, 1}, new int[] {3, 1, 0, 1}), 3, 1, 23);
    }

    /** At tick 0 none TOUCHES, though both stand at one tooth. */
    private static void noMeetingAtTick0() {
        meet(with(24, new int[] {0, 12, 5, 1}, new int[] {0, 12, 5, 1}), 3, 1, 17);
        // The one comes back to 5 at tick 216.
        meet(with(24, new int[] {0, 1, 5, 9}, new int[] {5, 12, 5, 1}), 3, -9, -9);
        // At tick 1 the one TOUCHES 5, where the other stands till tick 2.
        meet(with(24, new int[] {5, 12, 5, 1}, new int[] {5, 12, 5, 2}), 3, 2, 5);
    }

    /** "(.. 200)" */
    private static void meetAtTick200() {
        // The one stays at 0; the other comes there with its 25th ARC of 8 ticks, from 34 with its 26th.
        meet(with(60, new int[] {5, 30, 0, 1}, new int[] {0, 1, 35, 8}), 3, 200, 0);
        meet(with(60, new int[] {5, 30, 0, 1}, new int[] {0, 1, 34, 8}), 3, -9, -9);
        meet(with(60, new int[] {5, 30, 0, 1}, new int[] {0, 1, 36, 8}), 3, 192, 0);
    }

    /** Both TOUCH one tooth with their 67th ARCS, at tick 201, for the first time. */
    private static void noMeetingAtTick201() {
        WheelOnWheel x = with(58, new int[] {0, 2, 2, 3});
        x.wheel(2, 3, 8, 45, 3);
        for (int i = 0; i < 67; i++) {
            boolean alike = x.touch(1, i, 1) == x.touch(2, i, 1);
            DUE.is(21, "alike behind " + (i + 1) + " ARCS", alike ? 1 : 0, i == 66 ? 1 : 0);
        }
        DUE.is(21, "the 67th TOUCH", x.touch(1, 66, 0), 201);
        meet(x, 3, -9, -9);
    }

    /** "two WHEELS (or more) of them": one has none to meet, nor has one that isn't of the set. */
    private static void noMeetingOfOne() {
        WheelOnWheel x = with(24, new int[] {5, 12, 5, 1}, new int[] {5, 12, 5, 1}, new int[] {5, 12, 6, 1});
        meet(x, 1, -9, -9);
        meet(x, 2, -9, -9);
        meet(x, 5, -9, -9);
        meet(x, 6, -9, -9);
        meet(x, 3, 1, 5);
    }

    /** "two WHEELS (or more)": three, and the first and the last of six. */
    private static void meetOfTwoOrMore() {
        meet(with(24, new int[] {0, 3, 1, 1}, new int[] {3, 1, 5, 1}, new int[] {0, 2, 2, 1}), 7, 1, 4);
        WheelOnWheel x = withSix();
        x.puts(5, 0);
        meet(x, 63, 1, 1);
        meet(x, 33, 1, 1);
        meet(x, 31, -9, -9);
    }

    /** "that tooth, of several the least" */
    private static void meetAtTheLeastTooth() {
        meet(with(24, new int[] {5, 12, 9, 1}, new int[] {5, 12, 9, 1}, new int[] {5, 12, 0, 1}, new int[] {5, 12, 0, 1}),
            15, 1, 0);
        meet(with(24, new int[] {5, 12, 9, 1}, new int[] {5, 12, 9, 1}, new int[] {5, 12, 23, 1}, new int[] {5, 12, 23, 1}),
            15, 1, 9);
        // A lesser tooth at a later tick, or TOUCHED by one alone, doesn't matter.
        meet(with(24, new int[] {5, 12, 9, 1}, new int[] {5, 12, 9, 1}, new int[] {5, 12, 0, 2}, new int[] {5, 12, 0, 2},
            new int[] {5, 12, 3, 1}), 31, 1, 9);
    }

    /** "-9 (n 0)": the tooth alone; how many and ALONE are 0. */
    private static void crowdOf0() {
        crowd(with(24, new int[] {0, 1, 0, 1}), 1, 0, -9, 0, 0);
        crowd(withSix(), 63, 0, -9, 0, 0);
        DUE.is(23, "n -1", withSix().crowd(63, -1, 0), -4);
    }

    /** The first alone. */
    private static void crowdOf1() {
        crowd(with(24, new int[] {0, 1, 23, 9}), 1, 1, 0, 1, 1);
        crowd(with(24, new int[] {0, 1, 22, 9}), 1, 1, 23, 1, 1);
    }

    /** "the first n TOUCHES (.. 100)" */
    private static void crowdOf100() {
        WheelOnWheel x = with(60, new int[] {0, 1, 59, 9});
        crowd(x, 1, 60, 0, 1, 60);
        crowd(x, 1, 61, 0, 2, 59);
        crowd(x, 1, 99, 0, 2, 21);
        crowd(x, 1, 100, 0, 2, 20);
        DUE.is(23, "n 101", x.crowd(1, 101, 0), -6);
        crowd(with(24, new int[] {5, 12, 23, 1}), 1, 100, 23, 100, 0);
    }

    /** Of those of one tick, too, the first n alone count. */
    private static void crowdOfThoseOfOneTick() {
        WheelOnWheel x = with(24, new int[] {5, 12, 9, 1}, new int[] {5, 12, 3, 1}, new int[] {5, 12, 9, 1}, new int[] {5, 12, 9, 1});
        crowd(x, 15, 1, 3, 1, 1);
        crowd(x, 15, 2, 3, 1, 2);
        crowd(x, 15, 3, 9, 2, 1);
        crowd(x, 15, 4, 9, 3, 1);
        crowd(x, 15, 5, 9, 3, 0);
    }

    /** "of several the least" */
    private static void crowdOfSeveralTheLeast() {
        WheelOnWheel x = with(24, new int[] {0, 12, 8, 1});
        // 20, 8, 20, 8, ..
        crowd(x, 1, 1, 20, 1, 1);
        crowd(x, 1, 2, 8, 1, 2);
        crowd(x, 1, 3, 20, 2, 1);
        crowd(x, 1, 4, 8, 2, 0);
        crowd(with(60, new int[] {0, 30, 29, 1}), 1, 100, 29, 50, 0);
        crowd(with(24, new int[] {0, 12, 1, 1}), 1, 100, 1, 50, 0);
    }

    /** "ALONE: how many teeth have just one of them" */
    private static void aloneMeansJustOne() {
        WheelOnWheel x = with(24, new int[] {5, 12, 0, 1}, new int[] {0, 1, 22, 1});
        // 0 at each tick; 23, 0, 1, 2, ..
        crowd(x, 3, 2, 0, 1, 2);
        crowd(x, 3, 4, 0, 3, 1);
        crowd(x, 3, 6, 0, 4, 2);
    }

    /** "n ARCS (1 .. 40)" */
    private static void rollsFrom1To40() {
        WheelOnWheel x = with(60, new int[] {0, 1, 30, 1});
        DUE.is(24, "roll(0, 0)", x.roll(0, 0), -4);
        DUE.is(24, "roll(0, least)", x.roll(0, Integer.MIN_VALUE), -4);
        DUE.is(24, "roll(0, 41)", x.roll(0, 41), -6);
        DUE.is(24, "roll(0, greatest)", x.roll(0, Integer.MAX_VALUE), -6);
        DUE.is(24, "no INK", x.count(4), 0);
        DUE.is(24, "AT as it was", x.of(0, 4), 30);
        DUE.is(24, "roll(0, 1)", x.roll(0, 1), 31);
        DUE.is(24, "where it begins is no INK", x.tooth(30, 1), 0);
        DUE.is(24, "roll(0, 40)", x.roll(0, 40), 11);
        DUE.is(24, "INK of the last", x.tooth(11, 1), 1);
        DUE.is(24, "INK behind it", x.tooth(12, 1), 0);
        DUE.is(24, "all INK", x.count(4), 41);
        DUE.is(24, "ROLLED", x.of(0, 5), 41);
    }

    private static void inked(WheelOnWheel x, int... due) {
        for (int what = 0; what < due.length; what++) {
            DUE.is(25, "inked(" + what + ")", x.inked(what), due[what]);
        }
        DUE.is(39, "count(2)", x.count(2), due[0]);
    }

    /** "(-9 none)" of the first, the last, BLOT */
    private static void inkedNone() {
        inked(new WheelOnWheel(), 0, -9, -9, -9);
        inked(Due.withRing(60), 0, -9, -9, -9);
        inked(Due.withRing(3), 0, -9, -9, -9);
    }

    /** Tooth 0 alone, and the last tooth alone. */
    private static void inkedOneAlone() {
        WheelOnWheel x = with(60, new int[] {5, 30, 0, 1});
        x.roll(0, 1);
        inked(x, 1, 0, 0, 0);
        WheelOnWheel y = with(60, new int[] {5, 30, 59, 1});
        y.roll(0, 1);
        inked(y, 1, 59, 59, 59);
    }

    /** All teeth have INK. */
    private static void inkedAll() {
        WheelOnWheel x = with(60, new int[] {0, 1, 59, 1});
        x.roll(0, 40);
        inked(x, 40, 0, 39, 0);
        x.roll(0, 20);
        inked(x, 60, 0, 59, 0);
    }

    /** "BLOT: the one of most INK, of several the least" */
    private static void blotOfSeveralTheLeast() {
        WheelOnWheel x = with(60, new int[] {5, 30, 59, 1}, new int[] {5, 30, 7, 1});
        x.roll(0, 2);
        x.roll(1, 1);
        inked(x, 2, 7, 59, 59);
        x.roll(1, 1);
        inked(x, 2, 7, 59, 7);
        x.roll(0, 1);
        inked(x, 2, 7, 59, 59);
        WheelOnWheel y = with(60, new int[] {0, 1, 59, 1});
        y.roll(0, 2);
        y.puts(0, 0);
        y.roll(0, 2);
        inked(y, 3, 0, 2, 1);
    }

    /** "the first INKED one from it on (it, too)" */
    private static void aheadItToo() {
        WheelOnWheel x = with(24, new int[] {5, 12, 7, 1}, new int[] {5, 12, 0, 1});
        x.roll(0, 1);
        DUE.is(26, "ahead(6)", x.ahead(6), 7);
        DUE.is(26, "ahead(7)", x.ahead(7), 7);
        DUE.is(26, "ahead(8)", x.ahead(8), -9);
        DUE.is(26, "ahead(0)", x.ahead(0), 7);
        x.roll(1, 1);
        DUE.is(26, "ahead(0), it too", x.ahead(0), 0);
        DUE.is(26, "ahead(1)", x.ahead(1), 7);
    }

    /** "up to R less 1; -9": not round. */
    private static void aheadUpToTheLast() {
        int[] rings = {4, 24, 60};
        for (int r : rings) {
            WheelOnWheel x = with(r, new int[] {5, r / 2, 0, 1}, new int[] {5, r / 2, r - 1, 1});
            DUE.is(26, "no INK on " + r, x.ahead(r - 1), -9);
            x.roll(0, 1);
            DUE.is(26, "0 isn't ahead of the last of " + r, x.ahead(r - 1), -9);
            DUE.is(26, "nor of 1", x.ahead(1), -9);
            x.roll(1, 1);
            DUE.is(26, "the last of " + r, x.ahead(1), r - 1);
            DUE.is(26, "the last of " + r + " itself", x.ahead(r - 1), r - 1);
        }
    }
}
