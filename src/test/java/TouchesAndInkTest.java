/** Promises 21 to 26: touches in time, where wheels meet and crowd, rolling truly, ink. */
public final class TouchesAndInkTest {
    private static final Due DUE = new Due("TouchesAndInkTest");

    public static void main(String[] args) {
        touch();
        touchesOfOneTick();
        refusedTouches();
        meet();
        meetAtTheLastTick();
        meetJustTooLate();
        refusedMeets();
        crowd();
        refusedCrowds();
        roll();
        rollByWornTeeth();
        rollToTheMost();
        refusedRolls();
        inked();
        ahead();
        DUE.close();
    }

    private static void touches(WheelOnWheel x, int set, int[]... due) {
        for (int i = 0; i < due.length; i++) {
            for (int what = 0; what < 3; what++) {
                DUE.is(21, "touch(" + set + ", " + i + ", " + what + ")", x.touch(set, i, what), due[i][what]);
            }
        }
    }

    private static void touch() {
        WheelOnWheel x = new WheelOnWheel();
        x.wheel(0, 5, 0, 0, 2);
        x.wheel(0, 3, 0, 2, 1);
        touches(x, 3, new int[][] {{1, 5, 1}, {2, 5, 0}, {2, 8, 1}, {3, 11, 1}, {4, 10, 0}, {4, 14, 1}, {5, 17, 1}});
        touches(x, 1, new int[][] {{2, 5, 0}, {4, 10, 0}, {6, 15, 0}, {8, 20, 0}, {10, 1, 0}});
        touches(x, 2, new int[][] {{1, 5, 1}, {2, 8, 1}});
        DUE.is(21, "in thought alone", x.of(0, 4), 0);
        DUE.is(21, "ROLLED in thought alone", x.of(0, 5), 0);
        DUE.is(21, "no INK", x.count(4), 0);
        x.roll(0, 1);
        touches(x, 1, new int[][] {{2, 10, 0}, {4, 15, 0}});
        x.change(0, 3, 9);
        DUE.is(21, "the last of the slowest", x.touch(1, 99, 0), 900);
        DUE.is(21, "its tooth", x.touch(1, 99, 1), (5 + 500) % 24);
    }

    private static void touchesOfOneTick() {
        WheelOnWheel x = new WheelOnWheel();
        x.wheel(0, 10, 0, 0, 1);
        x.wheel(0, 3, 0, 7, 1);
        x.wheel(1, 3, 0, 0, 1);
        x.wheel(3, 14, 0, 0, 1);
        touches(x, 15, new int[][] {{1, 3, 2}, {1, 10, 0}, {1, 10, 1}, {1, 10, 3},
            {2, 6, 2}, {2, 13, 1}, {2, 20, 0}, {2, 20, 3}});
        touches(x, 12, new int[][] {{1, 3, 2}, {1, 10, 3}});
        x.wheel(0, 1, 0, 9, 1);
        x.wheel(0, 2, 0, 8, 1);
        touches(x, 63, new int[][] {{1, 3, 2}, {1, 10, 0}, {1, 10, 1}, {1, 10, 3}, {1, 10, 4}, {1, 10, 5}, {2, 6, 2}});
        DUE.is(21, "the hundredth of six", x.touch(63, 99, 0), 17);
    }

    private static void refusedTouches() {
        WheelOnWheel x = new WheelOnWheel();
        DUE.is(21, "no WHEELS", x.touch(1, 0, 0), -1);
        x.wheel(0, 5, 0, 0, 2);
        x.wheel(0, 5, 0, 0, 2);
        DUE.is(21, "set 0", x.touch(0, -1, 3), -1);
        DUE.is(21, "set -1", x.touch(-1, 0, 0), -1);
        DUE.is(21, "set 4", x.touch(4, 0, 0), -1);
        DUE.is(21, "set 5", x.touch(5, 0, 0), -1);
        DUE.is(21, "the least int", x.touch(Integer.MIN_VALUE, 0, 0), -1);
        DUE.is(21, "touch -1 ahead of what", x.touch(3, -1, 3), -4);
        DUE.is(21, "touch 100 ahead of what", x.touch(3, 100, 3), -6);
        DUE.is(21, "what 3", x.touch(3, 99, 3), -2);
        DUE.is(21, "what -1", x.touch(3, 0, -1), -2);
        DUE.is(21, "set 3", x.touch(3, 99, 2), 1);
    }

    private static void meet() {
        WheelOnWheel x = new WheelOnWheel();
        x.wheel(0, 10, 0, 10, 2);
        x.wheel(0, 20, 0, 0, 2);
        x.wheel(0, 4, 0, 2, 1);
        x.wheel(0, 4, 0, 2, 1);
        DUE.is(22, "two at 20, two at 6", x.meet(15, 0), 1);
        DUE.is(22, "two at 6", x.meet(15, 1), 6);
        DUE.is(22, "two slow ones", x.meet(3, 0), 2);
        DUE.is(22, "their tooth", x.meet(3, 1), 20);
        x.puts(2, 4);
        x.change(3, 3, 2);
        // At tick 2: 20, 20, 12, 6.
        DUE.is(22, "a later one", x.meet(15, 0), 2);
        DUE.is(22, "its tooth", x.meet(15, 1), 20);
        x.puts(2, 1);
        x.puts(3, 5);
        // At tick 2: 20, 20, 9, 9: the least tooth of several.
        DUE.is(22, "the least tooth", x.meet(15, 1), 9);
        DUE.is(22, "one alone", x.meet(4, 0), -9);
        DUE.is(22, "one alone, tooth", x.meet(4, 1), -9);
        DUE.is(22, "in thought alone", x.of(0, 4), 10);
        // At tick 2 one touches tooth 4, while the other only stands there till tick 3.
        WheelOnWheel y = new WheelOnWheel();
        y.wheel(5, 12, 0, 4, 2);
        y.wheel(5, 12, 0, 4, 3);
        DUE.is(22, "both touch it", y.meet(3, 0), 6);
        DUE.is(22, "tooth 4", y.meet(3, 1), 4);
    }

    private static void meetAtTheLastTick() {
        WheelOnWheel x = Due.withRing(60);
        x.wheel(0, 5, 0, 0, 8);
        x.wheel(0, 3, 0, 5, 5);
        DUE.is(22, "tick 200", x.meet(3, 0), 200);
        DUE.is(22, "its tooth", x.meet(3, 1), 5);
        x.puts(1, 6);
        DUE.is(22, "tick 240 is too late", x.meet(3, 0), -9);
        DUE.is(22, "no tooth", x.meet(3, 1), -9);
    }

    /** Two that touch one tooth with their 67th ARCS for the first time. */
    private static void meetJustTooLate() {
        WheelOnWheel x = Due.withRing(58);
        x.wheel(0, 2, 0, 2, 3);
        x.wheel(2, 3, 8, 45, 3);
        int one = 2;
        int other = 45;
        for (int arc = 1; arc <= 67; arc++) {
            one = x.next(0, one);
            other = x.next(1, other);
            DUE.is(22, "alike behind " + arc, one == other ? 1 : 0, arc == 67 ? 1 : 0);
        }
        DUE.is(22, "tick 201 is too late", x.meet(3, 0), -9);
        DUE.is(22, "no tooth", x.meet(3, 1), -9);
        x.change(0, 3, 2);
        x.change(1, 3, 2);
        DUE.is(22, "at PACE 2", x.meet(3, 0), 134);
        DUE.is(22, "their tooth", x.meet(3, 1), 20);
    }

    private static void refusedMeets() {
        WheelOnWheel x = new WheelOnWheel();
        x.wheel(0, 5, 0, 0, 2);
        DUE.is(22, "set 0", x.meet(0, 0), -1);
        DUE.is(22, "set 2 ahead of what", x.meet(2, 2), -1);
        DUE.is(22, "set -1", x.meet(-1, 0), -1);
        DUE.is(22, "what 2", x.meet(1, 2), -2);
        DUE.is(22, "what -1", x.meet(1, -1), -2);
    }

    private static void crowd() {
        WheelOnWheel x = new WheelOnWheel();
        x.wheel(0, 8, 0, 0, 1);
        x.wheel(0, 6, 0, 2, 2);
        // 8; 16, 8 at tick 2 (8 of WHEEL 1 first); 0; 8, 14; 16; 0, 20; ..
        int[][] due = {{-9, 0, 0}, {8, 1, 1}, {8, 2, 0}, {8, 2, 1}, {8, 2, 2}, {8, 3, 2}, {8, 3, 3}, {8, 3, 2}, {8, 3, 1}, {8, 3, 2}};
        for (int n = 0; n < due.length; n++) {
            for (int what = 0; what < 3; what++) {
                DUE.is(23, "crowd(3, " + n + ", " + what + ")", x.crowd(3, n, what), due[n][what]);
            }
        }
        DUE.is(23, "of several the least", x.crowd(1, 99, 0), 0);
        DUE.is(23, "33 each", x.crowd(1, 99, 1), 33);
        DUE.is(23, "one more", x.crowd(1, 100, 0), 8);
        DUE.is(23, "one more", x.crowd(1, 100, 1), 34);
        DUE.is(23, "none ALONE", x.crowd(1, 100, 2), 0);
        DUE.is(23, "three ALONE", x.crowd(1, 3, 2), 3);
        DUE.is(23, "in thought alone", x.count(4), 0);
    }

    private static void refusedCrowds() {
        WheelOnWheel x = new WheelOnWheel();
        x.wheel(0, 5, 0, 0, 2);
        DUE.is(23, "set 0", x.crowd(0, -1, 3), -1);
        DUE.is(23, "set 2", x.crowd(2, 0, 0), -1);
        DUE.is(23, "n -1 ahead of what", x.crowd(1, -1, 3), -4);
        DUE.is(23, "n 101 ahead of what", x.crowd(1, 101, 3), -6);
        DUE.is(23, "what 3", x.crowd(1, 0, 3), -2);
        DUE.is(23, "what -1", x.crowd(1, 0, -1), -2);
    }

    private static void roll() {
        WheelOnWheel x = new WheelOnWheel();
        x.wheel(0, 8, 0, 1, 3);
        x.wheel(3, 5, 0, 2, 1);
        DUE.is(24, "roll(0, 4)", x.roll(0, 4), 9);
        DUE.is(24, "roll(1, 1)", x.roll(1, 1), 21);
        DUE.is(24, "ROLLED of 0", x.of(0, 5), 4);
        DUE.is(24, "ROLLED of 1", x.of(1, 5), 1);
        DUE.is(24, "AT", x.of(1, 4), 21);
        int[] teeth = {1, 9, 17, 21, 2};
        int[] ink = {1, 2, 1, 1, 0};
        for (int i = 0; i < teeth.length; i++) {
            DUE.is(24, "INK of " + teeth[i], x.tooth(teeth[i], 1), ink[i]);
        }
        DUE.is(24, "all INK", x.count(4), 5);
        DUE.is(24, "40 ARCS", x.roll(0, 40), 17);
        DUE.is(24, "ROLLED", x.of(0, 5), 44);
        DUE.is(24, "count(6)", x.count(6), 3);
    }

    private static void rollByWornTeeth() {
        WheelOnWheel x = Due.withRing(8);
        x.wheel(4, 3, 0, 3, 1);
        x.wears(4);
        DUE.is(24, "3 to 6 to 1 to 5", x.roll(0, 3), 5);
        DUE.is(24, "INK of the WORN tooth", x.tooth(4, 1), 0);
        DUE.is(24, "INK of the tooth behind", x.tooth(5, 1), 1);
    }

    private static void rollToTheMost() {
        WheelOnWheel x = new WheelOnWheel();
        x.wheel(5, 12, 0, 7, 1);
        for (int i = 0; i < 249; i++) {
            x.roll(0, 40);
        }
        x.roll(0, 38);
        DUE.is(24, "INK 9998", x.tooth(7, 1), 9998);
        DUE.is(24, "ROLLED 9998", x.of(0, 5), 9998);
        x.roll(0, 1);
        DUE.is(24, "INK 9999", x.tooth(7, 1), 9999);
        DUE.is(24, "ROLLED 9999", x.of(0, 5), 9999);
        DUE.is(24, "AT", x.roll(0, 40), 7);
        DUE.is(24, "INK stays", x.tooth(7, 1), 9999);
        DUE.is(24, "ROLLED stays", x.of(0, 5), 9999);
    }

    private static void refusedRolls() {
        WheelOnWheel x = new WheelOnWheel();
        x.wheel(0, 8, 0, 1, 3);
        DUE.is(24, "WHEEL 1 ahead of n", x.roll(1, 0), -1);
        DUE.is(24, "WHEEL -1", x.roll(-1, 1), -1);
        DUE.is(24, "n 0", x.roll(0, 0), -4);
        DUE.is(24, "n 41", x.roll(0, 41), -6);
        DUE.is(24, "AT", x.of(0, 4), 1);
        DUE.is(24, "none can be UNDONE", x.count(6), 0);
    }

    private static void inked() {
        WheelOnWheel x = new WheelOnWheel();
        int[] none = {0, -9, -9, -9};
        int[] some = {3, 1, 17, 9};
        int[] more = {5, 0, 23, 9};
        inkedIs(x, none);
        x.wheel(0, 8, 0, 1, 3);
        x.wheel(0, 1, 0, 22, 3);
        x.roll(0, 4);
        inkedIs(x, some);
        x.roll(1, 2);
        inkedIs(x, more);
        x.roll(0, 2);
        DUE.is(25, "of several the least", x.inked(3), 1);
        DUE.is(25, "what 4", x.inked(4), -2);
        DUE.is(25, "what -1", x.inked(-1), -2);
        x.undo();
        inkedIs(x, more);
        WheelOnWheel y = new WheelOnWheel();
        y.wheel(0, 1, 0, 23, 1);
        y.roll(0, 1);
        inkedIs(y, new int[] {1, 0, 0, 0});
    }

    private static void inkedIs(WheelOnWheel x, int[] due) {
        for (int what = 0; what < due.length; what++) {
            DUE.is(25, "inked(" + what + ")", x.inked(what), due[what]);
        }
        DUE.is(39, "count(2)", x.count(2), due[0]);
    }

    private static void ahead() {
        WheelOnWheel x = new WheelOnWheel();
        DUE.is(26, "no INK", x.ahead(0), -9);
        x.wheel(0, 8, 0, 1, 3);
        x.roll(0, 2);
        DUE.is(26, "ahead(0)", x.ahead(0), 9);
        DUE.is(26, "ahead(9)", x.ahead(9), 9);
        DUE.is(26, "ahead(10)", x.ahead(10), 17);
        DUE.is(26, "ahead(18), not round", x.ahead(18), -9);
        DUE.is(26, "ahead(23)", x.ahead(23), -9);
        DUE.is(26, "ahead(24)", x.ahead(24), -1);
        DUE.is(26, "ahead(-1)", x.ahead(-1), -1);
    }
}
